/-! the class's conditions, as the Judge wants them -/
section CJM
variable (sl : Nat → Nat) (T0 : Nat) (pp ee fc : Nat → Int32) (ns : Nat → Option Nat) (cov : Nat → Prop) (Bb : Int)
/-- comparisons that the Judge can take -/
def cSoJ : tT → Prop
  | .leaf => True
  | .inner g d _ a b => (g = 25 → sFa (sDf (sL ns d.2.2.2.1.2) (sL ns d.2.2.2.2.2)) = true ∧ (∀ q, q ∈ sDf (sL ns d.2.2.2.1.2) (sL ns d.2.2.2.2.2) → (-2 ≤ q.2.toInt ∧ q.2.toInt ≤ 2 ∧ q.2.toInt ≠ 0) ∧ cov q.1) ∧ (-1125899906842624 ≤ (cmPl T0 pp ee fc d.2.2.2.1.2 d.2.2.2.2.2).toInt ∧ (cmPl T0 pp ee fc d.2.2.2.1.2 d.2.2.2.2.2).toInt ≤ 1125899906842624) ∧ -Bb ≤ 2 * (cmPl T0 pp ee fc d.2.2.2.1.2 d.2.2.2.2.2).toInt - 2 ∧ 2 * (cmPl T0 pp ee fc d.2.2.2.1.2 d.2.2.2.2.2).toInt + 2 ≤ Bb) ∧ cSoJ a ∧ cSoJ b
end CJM
/-- the PROGRAM's cells, as far as conditions go -/
def vJ (lo : Nat) (V σ : oSt) : Prop := (∀ a fs, lo ≤ a → V.1 a = some (.inr (7, fs)) → ∃ gs, σ.1 a = some (.inr (7, gs)) ∧ ∀ i, i ≠ 8 → i ≠ 20 → gs[i]? = fs[i]?) ∧ (∀ a fs, lo ≤ a → V.1 a = some (.inr (6, fs)) → ∃ gs, σ.1 a = some (.inr (6, gs))) ∧ (∀ a k fs, lo ≤ a → V.1 a = some (.inr (k, fs)) → k = 1 ∨ k = 11 → σ.1 a = some (.inr (k, fs))) ∧ ∀ a y, lo ≤ a → V.1 a = some (.inl y) → y.1 ≠ .long → σ.1 a = some (.inl y)
theorem vM.j {lo : Nat} {V σ : oSt} (h : vM lo V σ) : vJ lo V σ := by
  refine ⟨fun a fs hl e => ?_, fun a fs hl e => ?_, fun a k fs hl e hk => h.2.2 a _ hl e (fun g z => ?_) (fun g z => ?_) (fun k' g z => (by
    injection z with z
    injection z with z _
    rcases hk with hk | hk <;> (rw [← z, hk]; decide))) (fun _ z => by cases z), fun a y hl e hy => h.2.2 a _ hl e (fun g z => by cases z) (fun g z => by cases z) (fun _ g z => by cases z) (fun g z => by injection z with z; rw [z] at hy; exact hy rfl)⟩
  · obtain ⟨gs, h1, -, h3⟩ := h.nd hl e
    exact ⟨gs, h1, h3⟩
  · obtain ⟨gs, h1, -⟩ := h.2.1 a fs hl e
    exact ⟨gs, h1⟩
  all_goals
    injection z with z
    injection z with z _
    omega
section VJJ
variable {lo : Nat} {V σ : oSt}
theorem vJ.sm (h : vJ lo V σ) {su na ta cap : Nat} {L : List (Nat × Int32)} {pl : Int64} (s : cSm V su na ta cap L pl) (hs : lo ≤ su ∧ lo ≤ na ∧ lo ≤ ta) (hN : ∀ p, p ∈ L → lo ≤ p.1) : cSm σ su na ta cap L pl := by
  obtain ⟨g, h', s1, s2, s3, s4, s5⟩ := s
  refine ⟨g, h', h.2.2.1 _ _ _ hs.1 s1 (Or.inr rfl), h.2.2.2 _ _ hs.2.1 s2 (fun z => by cases z), h.2.2.2 _ _ hs.2.2 s3 (fun z => by cases z), s4, fun k b c e => ⟨(s5 k b c e).1, (s5 k b c e).2.1, ?_⟩⟩
  obtain ⟨fs, z⟩ := (s5 k b c e).2.2
  exact h.2.1 b fs (hN _ (List.mem_of_getElem? e)) z
theorem vJ.ls (h : vJ lo V σ) {κ : oKv} {x d cap len : Nat} {mc : Int32} {gl : Nat → Option Nat} (c : cLs κ V x d cap len mc gl 7) (hx : lo ≤ x) (hd : lo ≤ d) (hl : 0 < len) (hg : ∀ j b, j < len → gl j = some b → lo ≤ b) : cLs κ σ x d cap len mc gl 7 := by
  obtain ⟨c1, c2, c3⟩ := c
  refine ⟨h.2.2.1 _ _ _ hx c1 (Or.inl rfl), Or.inr ?_, fun j hj => ?_⟩
  · rcases c2 with ⟨z, -⟩ | ⟨z, z2⟩
    · omega
    · exact ⟨h.2.2.2 _ _ hd z (fun w => by cases w), z2⟩
  · obtain ⟨b, fs, z1, z2⟩ := c3 j hj
    obtain ⟨gs, z3, -⟩ := h.1 b fs (hg j b hj z1) z2
    exact ⟨b, gs, z1, z3⟩
end VJJ
section CJN
variable {κ : oKv} {T0 cnt : Nat} {kk pp ee fc : Nat → Int32} {B : Nat → Nat} {D : cDt} {lo lo1 : Nat} {V σ : oSt} {cd : Nat} {ns : Nat → Option Nat} {sl ti : Nat → Nat} {X : Nat → Prop} {pa ph ta th c : Nat} {rd : Int32} {Bb : Int} {cov : Nat → Prop}
/-- a comparison of the PROGRAM, in the state -/
theorem vJ.js {su na ta' cap : Nat} {L : List (Nat × Int32)} {pl : Int64} (hM : vJ lo V σ) (s : cSm V su na ta' cap L pl) (hs : lo ≤ su ∧ lo ≤ na ∧ lo ≤ ta') (hN : ∀ q, q ∈ L → lo ≤ q.1) (hJ : pa < lo ∧ ph < lo ∧ ta < lo ∧ th < lo) (h1 : sFa L = true) (h2 : ∀ q, q ∈ L → -2 ≤ q.2.toInt ∧ q.2.toInt ≤ 2 ∧ q.2.toInt ≠ 0) (h3 : ∀ q, q ∈ L → nSl σ rd sl c q.1) (h4 : -1125899906842624 ≤ pl.toInt ∧ pl.toInt ≤ 1125899906842624) (h5 : -Bb ≤ 2 * pl.toInt - 2 ∧ 2 * pl.toInt + 2 ≤ Bb) : jSm σ pa ph ta th rd sl c Bb su L pl := ⟨na, ta', cap, hM.sm s hs hN, ⟨by omega, by omega, by omega, by omega⟩, ⟨by omega, by omega, by omega, by omega⟩, h1, h2, h3, h4, h5⟩
theorem vJ.nx {m : Nat} {fs : List Value} (hM : vJ lo V σ) (hm : lo ≤ m) (h : V.1 m = some (.inr (7, fs))) : ∃ gs, σ.1 m = some (.inr (7, gs)) ∧ ∀ i, i ≠ 8 → i ≠ 20 → gs[i]? = fs[i]? := by
  exact hM.1 m fs hm h
set_option maxHeartbeats 1000000 in
/-- **a C in cells, as the Judge wants it** -/
theorem cCt_j (hM : vJ lo V σ) (hl : lo ≤ lo1) (hV : V.2.1 ≤ σ.2.1) (hJ : pa < lo ∧ ph < lo ∧ ta < lo ∧ th < lo) (hX : ∀ x, X x → V.2.1 ≤ x) (hfr : ∀ a, V.2.1 ≤ a → V.1 a = none) (hns : ∀ w x, ns w = some x → lo ≤ x ∧ ∃ fs, V.1 x = some (.inr (6, fs))) (hcov : ∀ x, cov x → lo ≤ x ∧ nSl σ rd sl c x) : ∀ (t : tT) (l : Bool) (g : Nat → Option Nat) (k m : Nat), cWf cnt t l → cGo ns t → kN t < 1073741824 → cSoJ T0 pp ee fc ns cov Bb t → cCt κ T0 kk pp ee fc B D lo1 V cd ns t g k m → (l = false → ∃ P, cMl sl ti T0 pp ee fc ns t = [P] ∧ (lo ≤ m ∧ mnV V sl ti m = P) ∧ ∀ H, tHt t < H → jMn X κ σ pa ph ta th rd sl ti c Bb (fun m => (mnV V sl ti m).2) H P.1 m) ∧ (l = true → ∀ i P, (cMl sl ti T0 pp ee fc ns t)[i]? = some P → ∃ x, g (k + i) = some x ∧ (lo ≤ x ∧ mnV V sl ti x = P) ∧ ∀ H, tHt t < H → jMn X κ σ pa ph ta th rd sl ti c Bb (fun m => (mnV V sl ti m).2) H P.1 x)
  | .leaf, l, g, k, m, w, _, _, _, h => by
    have w : l = true := w
    exact ⟨fun z => (by rw [z] at w; cases w), fun _ i P z => by cases z⟩
  | .inner n d z a b, l, g, k, m, w, go, hk, so, h => by
    have Ia := cCt_j hM hl hV hJ hX hfr hns hcov a
    have Ib := cCt_j hM hl hV hJ hX hfr hns hcov b
    have mn := cCt_mn (sl := sl) (ti := ti) (.inner n d z a b) l g k m w go hk h
    obtain ⟨⟨g24, g25, g20⟩, ga, gb⟩ := go
    obtain ⟨so25, soa, sob⟩ := so
    have lst : ∀ (an : Bool) (nn : Nat), (nn = 20 ∨ nn = 21) → b ≠ .leaf → kN (.inner nn d z a b) < 1073741824 → cWf cnt a false → cWf cnt b true → cOk B D lo1 V m → (∃ pa q g' x, V.1 m = some (.inr (7, cLf (if an = true then 302 else 303) (pp (tPl a)) (nI cd) pa)) ∧ cLn κ B D lo1 V pa q g' ∧ g' 0 = some x ∧ cCt κ T0 kk pp ee fc B D lo1 V cd ns a (fun _ => none) 0 x ∧ cCt κ T0 kk pp ee fc B D lo1 V cd ns b g' 1 q) → (mnV V sl ti m = (((cMl sl ti T0 pp ee fc ns a ++ cMl sl ti T0 pp ee fc ns b).map Prod.fst).sum, fun h => if an = h then brAll ((cMl sl ti T0 pp ee fc ns a ++ cMl sl ti T0 pp ee fc ns b).map (fun E => E.2 h)) else brAny ((cMl sl ti T0 pp ee fc ns a ++ cMl sl ti T0 pp ee fc ns b).map (fun E => E.2 h)))) → ∀ H, tHt (.inner nn d z a b) < H → jMn X κ σ pa ph ta th rd sl ti c Bb (fun m => (mnV V sl ti m).2) H ((cMl sl ti T0 pp ee fc ns a ++ cMl sl ti T0 pp ee fc ns b).map Prod.fst).sum m := fun an nn hn hb hk wa wb ok h em H hH => by
      obtain ⟨pl, q, g', x, h1, ⟨dd, cap, mc, c1, c2, c3, c4⟩, h3, h4, h5⟩ := h
      have hk' : kN a + kN b < 1073741824 := by
        have e : kN (.inner nn d z a b) = kN a + kN b + (if nn = 30 then 1 else 0) := if_neg (by omega)
        rw [e, if_neg (by omega)] at hk
        omega
      obtain ⟨Pa, e1, ⟨e2, e2'⟩, e2''⟩ := (Ia false _ _ _ wa ga (by omega) soa h4).1 rfl
      obtain ⟨⟨e3, e3'⟩, -⟩ := (cCt_mn (sl := sl) (ti := ti) b true _ _ _ wb gb (by omega) h5).2 rfl
      have e4 := (Ib true _ _ _ wb gb (by omega) sob h5).2 rfl
      obtain ⟨H, rfl⟩ : ∃ H', H = H' + 1 := ⟨H - 1, by omega⟩
      have hH : max (tHt a) (tHt b) + 1 < H + 1 := by
        have e : tHt (.inner nn d z a b) = max (tHt a) (tHt b) + 1 := if_neg (by omega)
        rw [e] at hH; exact hH
      have hb1 : 1 ≤ (cMl sl ti T0 pp ee fc ns b).length := by
        cases b with
        | leaf => exact absurd rfl hb
        | inner n' d' z' a' b' =>
          rcases wb with ⟨-, rfl, wa', -⟩ | ⟨z, -⟩
          · obtain ⟨x', -, y2, -⟩ := h5
            obtain ⟨P', p1, -⟩ := (cCt_mn (sl := sl) (ti := ti) a' false _ _ _ wa' gb.2.1 (by
              have : kN (.inner 30 d' z' a' b') = kN a' + kN b' + 1 := rfl
              omega) y2).1 rfl
            show 1 ≤ (cMl sl ti T0 pp ee fc ns a' ++ cMl sl ti T0 pp ee fc ns b').length
            rw [List.length_append, p1]; show 1 ≤ 1 + _; omega
          · cases z
      have el : ∀ (i : Nat) (P : Nat × (Bool → List oBr)), (cMl sl ti T0 pp ee fc ns a ++ cMl sl ti T0 pp ee fc ns b)[i]? = some P → ∃ x, g' i = some x ∧ (lo ≤ x ∧ mnV V sl ti x = P) ∧ jMn X κ σ pa ph ta th rd sl ti c Bb (fun m => (mnV V sl ti m).2) H P.1 x := fun i P hi => by
        rw [e1] at hi
        cases i with
        | zero =>
          have hi : some Pa = some P := hi
          injection hi with hi
          rw [← hi]
          exact ⟨x, h3, ⟨e2, e2'⟩, e2'' H (by omega)⟩
        | succ i =>
          obtain ⟨y, y1, y2, y3⟩ := e4 i P hi
          exact ⟨y, by rw [← y1]; congr 1; omega, y2, y3 H (by omega)⟩
      have hlen : (cMl sl ti T0 pp ee fc ns a ++ cMl sl ti T0 pp ee fc ns b).length = q := by
        rw [List.length_append, e1]; show 1 + _ = q; omega
      have hd : lo ≤ dd ∧ dd < V.2.1 := by
        rcases c2 with z | ⟨z1, z2⟩
        · exact ⟨Nat.le_trans hl z.1, z.2.1⟩
        · rcases c1.2.1 with ⟨z, -⟩ | ⟨z, -⟩
          · omega
          · rw [z2] at z; cases z
      have L := hM.ls c1 (Nat.le_trans hl c3.1) hd.1 (by omega) (fun j b' hj e => by
        obtain ⟨P, hP⟩ : ∃ P, (cMl sl ti T0 pp ee fc ns a ++ cMl sl ti T0 pp ee fc ns b)[j]? = some P := ⟨_, List.getElem?_eq_getElem (by omega)⟩
        obtain ⟨x', x1, x2, -⟩ := el j P hP
        rw [e] at x1
        injection x1 with x1
        rw [x1]; exact x2.1)
      obtain ⟨gs, q1, q3⟩ := hM.nx (Nat.le_trans hl ok.1) h1
      -- nodes with their atoms
      obtain ⟨xs, hxs⟩ : ∃ xs : List (Nat × Nat), xs = (List.range q).map (fun i => ((g' i).getD 0, (mnV V sl ti ((g' i).getD 0)).1)) := ⟨_, rfl⟩
      have xl : xs.length = q := by rw [hxs, List.length_map, List.length_range]
      have xa : ∀ (i : Nat) (y : Nat × Nat), xs[i]? = some y → ∃ P, (cMl sl ti T0 pp ee fc ns a ++ cMl sl ti T0 pp ee fc ns b)[i]? = some P ∧ g' i = some y.1 ∧ mnV V sl ti y.1 = P ∧ y.2 = P.1 ∧ jMn X κ σ pa ph ta th rd sl ti c Bb (fun m => (mnV V sl ti m).2) H P.1 y.1 := fun i y hy => by
        have hi : i < q := by
          by_cases c : i < q
          · exact c
          · rw [List.getElem?_eq_none (by omega)] at hy; cases hy
        obtain ⟨P, hP⟩ : ∃ P, (cMl sl ti T0 pp ee fc ns a ++ cMl sl ti T0 pp ee fc ns b)[i]? = some P := ⟨_, List.getElem?_eq_getElem (by omega)⟩
        obtain ⟨x', x1, x2, x3⟩ := el i P hP
        rw [hxs, List.getElem?_map, List.getElem?_range hi] at hy
        have hy : some ((g' i).getD 0, (mnV V sl ti ((g' i).getD 0)).1) = some y := hy
        injection hy with hy
        rw [x1] at hy
        have hy : (x', (mnV V sl ti x').1) = y := hy
        rw [← hy]
        exact ⟨P, hP, x1, x2.2, by rw [x2.2], x3⟩
      have mp : ∀ {β : Type} (F : Nat × Nat → β) (G : Nat × (Bool → List oBr) → β), (∀ (i : Nat) (y : Nat × Nat) (P : Nat × (Bool → List oBr)), xs[i]? = some y → mnV V sl ti y.1 = P → y.2 = P.1 → F y = G P) → xs.map F = (cMl sl ti T0 pp ee fc ns a ++ cMl sl ti T0 pp ee fc ns b).map G := fun F G hFG => List.ext_getElem? (fun i => by
        rw [List.getElem?_map, List.getElem?_map]
        by_cases c : i < q
        · obtain ⟨y, hy⟩ : ∃ y, xs[i]? = some y := ⟨_, List.getElem?_eq_getElem (by omega)⟩
          obtain ⟨P, y1, y2, y3, y4, y5⟩ := xa i y hy
          rw [hy, y1]
          show some (F y) = some (G P)
          rw [hFG i y P hy y3 y4]
        · rw [List.getElem?_eq_none (by omega), List.getElem?_eq_none (by omega)]; rfl)
      have sa : (xs.map Prod.snd).sum = ((cMl sl ti T0 pp ee fc ns a ++ cMl sl ti T0 pp ee fc ns b).map Prod.fst).sum := by
        rw [mp Prod.snd Prod.fst (fun i y P _ _ e => e)]
      have a1 : 1 ≤ ((cMl sl ti T0 pp ee fc ns a ++ cMl sl ti T0 pp ee fc ns b).map Prod.fst).sum := by
        have := (e2'' H (by omega)).nd.2
        rw [e1]
        show 1 ≤ Pa.1 + _
        omega
      refine ⟨gs, q1, a1, Or.inr (Or.inl ⟨an, pl, dd, cap, q, mc, g', xs, (q3 0 (by decide) (by decide)).trans rfl, (q3 18 (by decide) (by decide)).trans rfl, L, ⟨xl, by omega⟩, ⟨by omega, by omega, by omega, by omega⟩, by omega, fun i y hy => ?_, sa, fun h => ?_⟩)⟩
      · obtain ⟨P, y1, y2, y3, y4, y5⟩ := xa i y hy
        rw [y4]
        exact ⟨y2, y5⟩
      · show (mnV V sl ti m).2 h = _
        rw [em]
        show (if an = h then _ else _) = _
        rw [mp (fun x => (mnV V sl ti x.1).2 h) (fun E => E.2 h) (fun i y P _ e _ => by rw [e])]
    rcases w with ⟨hl', rfl, wa, wb⟩ | ⟨hl', w⟩
    · refine ⟨fun z => (by rw [z] at hl'; cases hl'), fun _ i P hi => ?_⟩
      obtain ⟨x, h1, h2, h3⟩ := h
      have hk : kN a + kN b + 1 < 1073741824 := hk
      obtain ⟨Pa, e1, e2, e2'⟩ := (Ia false _ _ _ wa ga (by omega) soa h2).1 rfl
      have e4 := (Ib true _ _ _ wb gb (by omega) sob h3).2 rfl
      have eM : cMl sl ti T0 pp ee fc ns (.inner 30 d z a b) = Pa :: cMl sl ti T0 pp ee fc ns b := by
        show cMl sl ti T0 pp ee fc ns a ++ cMl sl ti T0 pp ee fc ns b = _
        rw [e1]; rfl
      rw [eM] at hi
      cases i with
      | zero =>
        have hi : some Pa = some P := hi
        injection hi with hi
        rw [← hi]
        refine ⟨x, h1, e2, fun H hH => ?_⟩
        have hH : max (tHt a) (tHt b) < H := hH
        exact e2' H (by omega)
      | succ i =>
        obtain ⟨y, y1, y2, y3⟩ := e4 i P hi
        refine ⟨y, by rw [← y1]; congr 1; omega, y2, fun H hH => ?_⟩
        have hH : max (tHt a) (tHt b) < H := hH
        exact y3 H (by omega)
    · refine ⟨fun _ => ?_, fun z => (by rw [z] at hl'; cases hl')⟩
      obtain ⟨P, eP, hP⟩ := mn.1 hl'
      have em := mnV_eq (hP _ (Nat.lt_succ_self _))
      rcases w with ⟨hg, wa, wb⟩ | ⟨rfl, wa, -⟩ | ⟨rfl, -, -⟩ | ⟨rfl, -⟩ | ⟨rfl, -⟩
      · rcases hg with rfl | rfl
        · obtain ⟨ok, h⟩ := h
          injection eP with eP _
          refine ⟨P, by rw [← eP]; rfl, ⟨Nat.le_trans hl ok.1, em⟩, ?_⟩
          rw [← eP]
          exact lst false 20 (Or.inl rfl) (g20 (Or.inl rfl)) hk wa wb ok h (em.trans eP.symm)
        · obtain ⟨ok, h⟩ := h
          injection eP with eP _
          refine ⟨P, by rw [← eP]; rfl, ⟨Nat.le_trans hl ok.1, em⟩, ?_⟩
          rw [← eP]
          exact lst true 21 (Or.inr rfl) (g20 (Or.inr rfl)) hk wa wb ok h (em.trans eP.symm)
      · obtain ⟨ok, x, h1, h2⟩ := h
        have hk : kN a + kN b + 0 < 1073741824 := hk
        obtain ⟨Pa, e1, ⟨e2, e2'⟩, e3⟩ := (Ia false _ _ _ wa ga (by omega) soa h2).1 rfl
        have eP' : P = (Pa.1, fun h => Pa.2 (!h)) := by
          have : cMl sl ti T0 pp ee fc ns (.inner 22 d z a b) = [(Pa.1, fun h => Pa.2 (!h))] := by
            show (cMl sl ti T0 pp ee fc ns a).map _ = _
            rw [e1]; rfl
          rw [this] at eP
          injection eP with eP
          exact eP.symm
        refine ⟨P, eP, ⟨Nat.le_trans hl ok.1, em⟩, fun H hH => ?_⟩
        obtain ⟨H, rfl⟩ : ∃ H', H = H' + 1 := ⟨H - 1, by omega⟩
        have hH : max (tHt a) (tHt b) + 1 < H + 1 := hH
        obtain ⟨gs, q1, q3⟩ := hM.nx (Nat.le_trans hl ok.1) h1
        have ja := e3 H (by omega)
        refine ⟨gs, q1, by rw [eP']; exact ja.nd.2, Or.inl ⟨(q3 0 (by decide) (by decide)).trans rfl, x, (q3 12 (by decide) (by decide)).trans rfl, by rw [eP']; exact ja, fun h => ?_⟩⟩
        show (mnV V sl ti m).2 h = (mnV V sl ti x).2 (!h)
        rw [em, e2', eP']
      · obtain ⟨ok, h1⟩ := h
        refine ⟨P, eP, ⟨Nat.le_trans hl ok.1, em⟩, fun H hH => ?_⟩
        obtain ⟨H, rfl⟩ : ∃ H', H = H' + 1 := ⟨H - 1, by omega⟩
        obtain ⟨gs, q1, q3⟩ := hM.nx (Nat.le_trans hl ok.1) h1
        injection eP with eP _
        refine ⟨gs, q1, by rw [← eP]; exact Nat.le_refl 1, Or.inr (Or.inr (Or.inl ⟨decide (d.2.1 = 1), ?_, fun h => ?_⟩))⟩
        · rw [q3 0 (by decide) (by decide)]
          show some (Value.int (if d.2.1 = 1 then 223 else 205)) = _
          by_cases c : d.2.1 = 1
          · rw [if_pos c, if_pos (decide_eq_true c)]
          · rw [if_neg c, if_neg (by rw [decide_eq_false c]; decide)]
        · show (mnV V sl ti m).2 h = _
          rw [em, ← eP]
      · obtain ⟨ok, h⟩ := h
        obtain ⟨x, hx⟩ := g24 rfl
        rcases h with ⟨e, l', al, pl, su, na, tb, cap, pc, h1, -⟩ | ⟨j, S, S', e, -⟩
        · refine ⟨P, eP, ⟨Nat.le_trans hl ok.1, em⟩, fun H hH => ?_⟩
          obtain ⟨H, rfl⟩ : ∃ H', H = H' + 1 := ⟨H - 1, by omega⟩
          obtain ⟨gs, q1, q3⟩ := hM.nx (Nat.le_trans hl ok.1) h1
          obtain ⟨xl, fx, hfx⟩ := hns _ _ hx
          obtain ⟨fx', x1⟩ := hM.2.1 x fx xl hfx
          injection eP with eP _
          refine ⟨gs, q1, by rw [← eP]; exact Nat.le_refl 1, Or.inr (Or.inr (Or.inr (Or.inl ⟨x, fx', (q3 0 (by decide) (by decide)).trans rfl, ?_, x1, fun h => ?_⟩)))⟩
          · rw [q3 9 (by decide) (by decide)]
            show some (va_rf (ns d.1)) = _
            rw [hx]; rfl
          · show (mnV V sl ti m).2 h = _
            rw [em, ← eP, hx]; rfl
        · exact absurd e (fun e => by injection e with e; exact absurd e (by decide))
      · obtain ⟨ok, h⟩ := h
        have r5 := g25 rfl
        obtain ⟨t1, t2, t3, t4⟩ := so25 rfl
        rcases h with ⟨e, -⟩ | ⟨j, S, S', e, l', al, pl, su, na, tb, cap, pc, r, al2, pa2, su2, na2, ta2, cap2, pc2, q, na3, ta3, cap3, h1, -, -, h4, o1, o2, o3⟩
        · exact absurd e (fun e => by injection e with e; exact absurd e (by decide))
        · injection e with _ e1 _ _ _
          have ed : d = (d.1, j, aRl kk j, S, S') := e1
          have e3 : d.2.2.1 = aRl kk j := by rw [ed]
          have e4 : d.2.2.2.1 = S := by rw [ed]
          have e5 : d.2.2.2.2 = S' := by rw [ed]
          rw [← e4, ← e5] at h4
          refine ⟨P, eP, ⟨Nat.le_trans hl ok.1, em⟩, fun H hH => ?_⟩
          obtain ⟨H, rfl⟩ : ∃ H', H = H' + 1 := ⟨H - 1, by omega⟩
          obtain ⟨gs, q1, q3⟩ := hM.nx (Nat.le_trans hl ok.1) h1
          injection eP with eP _
          have js := hM.js (pa := pa) (ph := ph) (ta := ta) (th := th) (rd := rd) (sl := sl) (c := c) (Bb := Bb) h4 ⟨Nat.le_trans hl o1.1, Nat.le_trans hl o2.1, Nat.le_trans hl o3.1⟩ (fun q hq => (hcov _ (t2 q hq).2).1) hJ t1 (fun q hq => (t2 q hq).1) (fun q hq => (hcov _ (t2 q hq).2).2) t3 t4
          refine ⟨gs, q1, by rw [← eP]; exact Nat.le_refl 1, Or.inr (Or.inr (Or.inr (Or.inr ⟨q, _, _, d.2.2.1, (q3 0 (by decide) (by decide)).trans rfl, ?_, r5, (q3 19 (by decide) (by decide)).trans rfl, ⟨js, fun fs' hf t' ht hx => ?_⟩, fun h => ?_⟩)))⟩
          · rw [q3 5 (by decide) (by decide)]
            show some (Value.int (kk j)) = _
            rw [e3] at r5 ⊢
            rw [aRl_jc r5]
          · obtain ⟨g1, h1', s1, -, s3, -⟩ := h4
            have s1' := hM.2.2.1 q 11 _ (Nat.le_trans hl o1.1) s1 (Or.inr rfl)
            rw [hf] at s1'
            injection s1' with s1'; injection s1' with s1'; injection s1' with _ s1'
            rw [s1'] at ht
            have ht : some (Value.ref ta3) = some (.ref t') := ht
            injection ht with ht; injection ht with ht
            rw [← ht] at hx
            rw [hfr _ (hX _ hx)] at s3
            cases s3
          · show (mnV V sl ti m).2 h = _
            rw [em, ← eP]
            rfl
end CJN
