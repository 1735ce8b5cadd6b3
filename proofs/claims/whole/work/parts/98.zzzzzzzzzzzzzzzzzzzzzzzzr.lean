/-! the class's conditions: a C in cells, what it means -/
/-- how deep a C goes -/
def tHt : tT → Nat
  | .leaf => 0
  | .inner g _ _ a b => if g = 30 then max (tHt a) (tHt b) else max (tHt a) (tHt b) + 1
/-- a C whose parts are as the class wants them -/
def cGo (ns : Nat → Option Nat) : tT → Prop
  | .leaf => True
  | .inner g d _ a b => ((g = 24 → ∃ x, ns d.1 = some x) ∧ (g = 25 → d.2.2.1 ≤ 5) ∧ (g = 20 ∨ g = 21 → b ≠ .leaf)) ∧ cGo ns a ∧ cGo ns b
section CML
variable (sl ti : Nat → Nat) (T0 : Nat) (pp ee fc : Nat → Int32) (ns : Nat → Option Nat)
def cmPl (p1 p2 : List tP) : Int64 := 0 + (1 : Int32).toInt64 * sPl T0 (fun j => fc j &&& 255) pp ee p1 + (-1 : Int32).toInt64 * sPl T0 (fun j => fc j &&& 255) pp ee p2
/-- **what a C means to the class**: atoms and ways; a list: each of its parts -/
def cMl : tT → List (Nat × (Bool → List oBr))
  | .leaf => []
  | .inner g d _ a b =>
    if g = 30 then cMl a ++ cMl b
    else if g = 20 then [(((cMl a ++ cMl b).map Prod.fst).sum, fun h => if false = h then brAll ((cMl a ++ cMl b).map (fun E => E.2 h)) else brAny ((cMl a ++ cMl b).map (fun E => E.2 h)))]
    else if g = 21 then [(((cMl a ++ cMl b).map Prod.fst).sum, fun h => if true = h then brAll ((cMl a ++ cMl b).map (fun E => E.2 h)) else brAny ((cMl a ++ cMl b).map (fun E => E.2 h)))]
    else if g = 22 then (cMl a).map (fun E => (E.1, fun h => E.2 (!h)))
    else if g = 23 then [(1, fun h => if decide (d.2.1 = 1) = h then [([], [])] else [])]
    else if g = 24 then [(1, fun h => [([], [(ti ((ns d.1).getD 0), h)])])]
    else [(1, fun h => cmB (sMp sl (sDf (sL ns d.2.2.2.1.2) (sL ns d.2.2.2.2.2))) (cmPl T0 pp ee fc d.2.2.2.1.2 d.2.2.2.2.2).toInt (if h = true then d.2.2.1 else rNo d.2.2.1))]
end CML
section CMN
variable {κ : oKv} {T0 cnt : Nat} {kk pp ee fc : Nat → Int32} {B : Nat → Nat} {D : cDt} {lo1 : Nat} {V : oSt} {cd : Nat} {ns : Nat → Option Nat} {sl ti : Nat → Nat}
theorem aRl_jc {j : Nat} (h : aRl kk j ≤ 5) : jRc (aRl kk j) = kk j := by
  unfold aRl at h ⊢
  have e : ∀ {c : Nat}, aIs kk c j = true → kk j = nI c := fun h => of_decide_eq_true h
  split
  · rename_i c; rw [e c]; rfl
  split
  · rename_i c; rw [e c]; rfl
  split
  · rename_i c; rw [e c]; rfl
  split
  · rename_i c; rw [e c]; rfl
  split
  · rename_i c; rw [e c]; rfl
  split
  · rename_i c; rw [e c]; rfl
  · rename_i h1 h2 h3 h4 h5 h6
    rw [if_neg h1, if_neg h2, if_neg h3, if_neg h4, if_neg h5, if_neg h6] at h
    omega
/-- **a C in cells means that** -/
theorem cCt_mn : ∀ (t : tT) (l : Bool) (g : Nat → Option Nat) (k m : Nat), cWf cnt t l → cGo ns t → kN t < 1073741824 → cCt κ T0 kk pp ee fc B D lo1 V cd ns t g k m → (l = false → ∃ P, cMl sl ti T0 pp ee fc ns t = [P] ∧ ∀ H, tHt t < H → mnR V sl ti H m P) ∧ (l = true → ((cMl sl ti T0 pp ee fc ns t).length ≤ kN t ∧ k + (cMl sl ti T0 pp ee fc ns t).length = m) ∧ ∀ i P, (cMl sl ti T0 pp ee fc ns t)[i]? = some P → ∃ x, g (k + i) = some x ∧ ∀ H, tHt t < H → mnR V sl ti H x P)
  | .leaf, l, g, k, m, w, _, _, h => by
    have w : l = true := w
    have h : k = m := h
    refine ⟨fun z => (by rw [z] at w; cases w), fun _ => ⟨⟨Nat.le_refl _, h⟩, fun i P z => by cases z⟩⟩
  | .inner n d z a b, l, g, k, m, w, go, hk, h => by
    have Ia := cCt_mn a
    have Ib := cCt_mn b
    obtain ⟨⟨g24, g25, g20⟩, ga, gb⟩ := go
    have lst : ∀ (an : Bool) (nn : Nat), (nn = 20 ∨ nn = 21) → an = decide (nn = 21) → kN (.inner nn d z a b) < 1073741824 → cWf cnt a false → cWf cnt b true → (∃ pa q g' x, V.1 m = some (.inr (7, cLf (if an = true then 302 else 303) (pp (tPl a)) (nI cd) pa)) ∧ cLn κ B D lo1 V pa q g' ∧ g' 0 = some x ∧ cCt κ T0 kk pp ee fc B D lo1 V cd ns a (fun _ => none) 0 x ∧ cCt κ T0 kk pp ee fc B D lo1 V cd ns b g' 1 q) → ∃ P, [(((cMl sl ti T0 pp ee fc ns a ++ cMl sl ti T0 pp ee fc ns b).map Prod.fst).sum, fun h => if an = h then brAll ((cMl sl ti T0 pp ee fc ns a ++ cMl sl ti T0 pp ee fc ns b).map (fun E => E.2 h)) else brAny ((cMl sl ti T0 pp ee fc ns a ++ cMl sl ti T0 pp ee fc ns b).map (fun E => E.2 h)))] = [P] ∧ ∀ H, tHt (.inner nn d z a b) < H → mnR V sl ti H m P := fun an nn hn ha hk wa wb h => by
      obtain ⟨pa, q, g', x, h1, ⟨dd, cap, mc, c1, c2, c3, c4⟩, h3, h4, h5⟩ := h
      have hk' : kN a + kN b < 1073741824 := by
        have e : kN (.inner nn d z a b) = kN a + kN b + (if nn = 30 then 1 else 0) := if_neg (by omega)
        rw [e, if_neg (by omega)] at hk
        omega
      obtain ⟨Pa, e1, e2⟩ := (Ia false _ _ _ wa ga (by omega) h4).1 rfl
      obtain ⟨⟨e3, e3'⟩, e4⟩ := (Ib true _ _ _ wb gb (by omega) h5).2 rfl
      refine ⟨_, rfl, fun H hH => ?_⟩
      obtain ⟨H, rfl⟩ : ∃ H', H = H' + 1 := ⟨H - 1, by omega⟩
      have hH : max (tHt a) (tHt b) + 1 < H + 1 := by
        have e : tHt (.inner nn d z a b) = max (tHt a) (tHt b) + 1 := if_neg (by omega)
        rw [e] at hH; exact hH
      refine ⟨_, h1, Or.inr (Or.inl ⟨an, pa, dd, cap, q, mc, g', cMl sl ti T0 pp ee fc ns a ++ cMl sl ti T0 pp ee fc ns b, rfl, rfl, c1.1, ?_, ⟨?_, by omega⟩, fun i P hi => ?_, rfl⟩)⟩
      · rcases c1.2.1 with ⟨z, -⟩ | ⟨z, -⟩
        · omega
        · exact z
      · rw [List.length_append, e1]; show 1 + _ = q; omega
      · rw [e1] at hi
        cases i with
        | zero =>
          have hi : some Pa = some P := hi
          injection hi with hi
          exact ⟨x, h3, by rw [← hi]; exact e2 H (by omega)⟩
        | succ i =>
          obtain ⟨y, y1, y2⟩ := e4 i P hi
          exact ⟨y, by rw [← y1]; congr 1; omega, y2 H (by omega)⟩
    rcases w with ⟨hl, rfl, wa, wb⟩ | ⟨hl, w⟩
    · refine ⟨fun z => (by rw [z] at hl; cases hl), fun _ => ?_⟩
      obtain ⟨x, h1, h2, h3⟩ := h
      have hk : kN a + kN b + 1 < 1073741824 := hk
      obtain ⟨Pa, e1, e2⟩ := (Ia false _ _ _ wa ga (by omega) h2).1 rfl
      obtain ⟨⟨e3, e3'⟩, e4⟩ := (Ib true _ _ _ wb gb (by omega) h3).2 rfl
      have eM : cMl sl ti T0 pp ee fc ns (.inner 30 d z a b) = Pa :: cMl sl ti T0 pp ee fc ns b := by
        show cMl sl ti T0 pp ee fc ns a ++ cMl sl ti T0 pp ee fc ns b = _
        rw [e1]; rfl
      rw [eM]
      refine ⟨⟨by show _ + 1 ≤ kN a + kN b + 1; omega, by show k + (_ + 1) = m; omega⟩, fun i P hi => ?_⟩
      cases i with
      | zero =>
        have hi : some Pa = some P := hi
        injection hi with hi
        refine ⟨x, h1, fun H hH => ?_⟩
        have hH : max (tHt a) (tHt b) < H := hH
        rw [← hi]; exact e2 H (by omega)
      | succ i =>
        obtain ⟨y, y1, y2⟩ := e4 i P hi
        refine ⟨y, by rw [← y1]; congr 1; omega, fun H hH => ?_⟩
        have hH : max (tHt a) (tHt b) < H := hH
        exact y2 H (by omega)
    · refine ⟨fun _ => ?_, fun z => (by rw [z] at hl; cases hl)⟩
      rcases w with ⟨hg, wa, wb⟩ | ⟨rfl, wa, -⟩ | ⟨rfl, -, -⟩ | ⟨rfl, -⟩ | ⟨rfl, -⟩
      · rcases hg with rfl | rfl
        · obtain ⟨-, h⟩ := h
          exact lst false 20 (Or.inl rfl) rfl hk wa wb h
        · obtain ⟨-, h⟩ := h
          exact lst true 21 (Or.inr rfl) rfl hk wa wb h
      · obtain ⟨-, x, h1, h2⟩ := h
        have hk : kN a + kN b + 0 < 1073741824 := hk
        obtain ⟨Pa, e1, e2⟩ := (Ia false _ _ _ wa ga (by omega) h2).1 rfl
        refine ⟨(Pa.1, fun h => Pa.2 (!h)), ?_, fun H hH => ?_⟩
        · show (cMl sl ti T0 pp ee fc ns a).map _ = _
          rw [e1]; rfl
        · obtain ⟨H, rfl⟩ : ∃ H', H = H' + 1 := ⟨H - 1, by omega⟩
          have hH : max (tHt a) (tHt b) + 1 < H + 1 := hH
          exact ⟨_, h1, Or.inl ⟨rfl, x, Pa, rfl, e2 H (by omega), rfl⟩⟩
      · obtain ⟨-, h1⟩ := h
        refine ⟨_, rfl, fun H hH => ?_⟩
        obtain ⟨H, rfl⟩ : ∃ H', H = H' + 1 := ⟨H - 1, by omega⟩
        refine ⟨_, h1, Or.inr (Or.inr (Or.inl ⟨decide (d.2.1 = 1), ?_, rfl⟩))⟩
        show some (Value.int (if d.2.1 = 1 then 223 else 205)) = _
        by_cases c : d.2.1 = 1
        · rw [if_pos c, if_pos (decide_eq_true c)]
        · rw [if_neg c, if_neg (by rw [decide_eq_false c]; decide)]
      · obtain ⟨-, h⟩ := h
        obtain ⟨x, hx⟩ := g24 rfl
        rcases h with ⟨e, l, al, pa, su, na, ta, cap, pc, h1, -⟩ | ⟨j, S, S', e, -⟩
        · refine ⟨_, rfl, fun H hH => ?_⟩
          obtain ⟨H, rfl⟩ : ∃ H', H = H' + 1 := ⟨H - 1, by omega⟩
          refine ⟨_, h1, Or.inr (Or.inr (Or.inr (Or.inl ⟨x, rfl, ?_, ?_⟩)))⟩
          · show some (va_rf (ns d.1)) = _
            rw [hx]; rfl
          · rw [hx]; rfl
        · exact absurd e (fun e => by injection e with e; exact absurd e (by decide))
      · obtain ⟨-, h⟩ := h
        have r5 := g25 rfl
        rcases h with ⟨e, -⟩ | ⟨j, S, S', e, l, al, pa, su, na, ta, cap, pc, r, al2, pa2, su2, na2, ta2, cap2, pc2, q, na3, ta3, cap3, h1, -, -, h4, -⟩
        · exact absurd e (fun e => by injection e with e; exact absurd e (by decide))
        · injection e with _ e1 _ _ _
          have ed : d = (d.1, j, aRl kk j, S, S') := e1
          have e3 : d.2.2.1 = aRl kk j := by rw [ed]
          have e4 : d.2.2.2.1 = S := by rw [ed]
          have e5 : d.2.2.2.2 = S' := by rw [ed]
          refine ⟨_, rfl, fun H hH => ?_⟩
          obtain ⟨H, rfl⟩ : ∃ H', H = H' + 1 := ⟨H - 1, by omega⟩
          refine ⟨_, h1, Or.inr (Or.inr (Or.inr (Or.inr ⟨q, na3, ta3, cap3, _, _, d.2.2.1, rfl, ?_, r5, rfl, h4, ?_⟩)))⟩
          · show some (Value.int (kk j)) = _
            rw [e3] at r5 ⊢
            rw [aRl_jc r5]
          · rw [e4, e5]; rfl
end CMN
