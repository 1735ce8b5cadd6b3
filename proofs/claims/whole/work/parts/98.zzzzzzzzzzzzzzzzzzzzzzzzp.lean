/-! what the class's conditions mean: a function of their cells -/
section MNR
variable (V : oSt) (sl ti : Nat → Nat)
/-- the node m means D -/
def mnR : Nat → Nat → Nat × (Bool → List oBr) → Prop
  | 0, _, _ => False
  | H + 1, m, D => ∃ fs, V.1 m = some (.inr (7, fs)) ∧ ((fs[0]? = some (.int 217) ∧ ∃ x D', fs[12]? = some (.ref x) ∧ mnR H x D' ∧ D = (D'.1, fun h => D'.2 (!h))) ∨ (∃ (an : Bool) (li dd cap q : Nat) (mc : Int32) (g : Nat → Option Nat) (Ds : List (Nat × (Bool → List oBr))), fs[0]? = some (.int (if an = true then 302 else 303)) ∧ fs[18]? = some (.ref li) ∧ V.1 li = some (.inr (1, [.int mc, .ref dd, .int (nI q)])) ∧ V.1 dd = some (.inl (.object "java/lang/Object", cap, .inr (.inr (.inr (.inr g))))) ∧ (Ds.length = q ∧ q < 2 ^ 31) ∧ (∀ (i : Nat) (D' : Nat × (Bool → List oBr)), Ds[i]? = some D' → ∃ x, g i = some x ∧ mnR H x D') ∧ D = ((Ds.map Prod.fst).sum, fun h => if an = h then brAll (Ds.map (fun E => E.2 h)) else brAny (Ds.map (fun E => E.2 h)))) ∨ (∃ bo : Bool, fs[0]? = some (.int (if bo = true then 223 else 205)) ∧ D = (1, fun h => if bo = h then [([], [])] else [])) ∨ (∃ x, fs[0]? = some (.int 402) ∧ fs[9]? = some (.ref x) ∧ D = (1, fun h => [([], [(ti x, h)])])) ∨ (∃ su na ta cap L pl r, fs[0]? = some (.int 403) ∧ fs[5]? = some (.int (jRc r)) ∧ r ≤ 5 ∧ fs[19]? = some (.ref su) ∧ cSm V su na ta cap L pl ∧ D = (1, fun h => cmB (sMp sl L) pl.toInt (if h = true then r else rNo r))))
/-- the meaning of a node -/
noncomputable def mnV (m : Nat) : Nat × (Bool → List oBr) := @dite _ (∃ D, ∃ H, mnR V sl ti H m D) (Classical.propDecidable _) (fun h => Classical.choose h) (fun _ => (0, fun _ => []))
end MNR
section MNU
variable {V : oSt} {sl ti : Nat → Nat}
theorem jRc_uq {r r' : Nat} (h : r ≤ 5) (h' : r' ≤ 5) (e : jRc r = jRc r') : r = r' := by
  rcases (by omega : r = 0 ∨ r = 1 ∨ r = 2 ∨ r = 3 ∨ r = 4 ∨ r = 5) with rfl | rfl | rfl | rfl | rfl | rfl <;> rcases (by omega : r' = 0 ∨ r' = 1 ∨ r' = 2 ∨ r' = 3 ∨ r' = 4 ∨ r' = 5) with rfl | rfl | rfl | rfl | rfl | rfl <;> first | rfl | exact absurd e (by decide)
theorem cSm.uq {su na ta cap na' ta' cap' : Nat} {L L' : List (Nat × Int32)} {pl pl' : Int64} (h : cSm V su na ta cap L pl) (h' : cSm V su na' ta' cap' L' pl') : L = L' ∧ pl = pl' := by
  obtain ⟨g, f, a1, a2, a3, a4, a5⟩ := h
  obtain ⟨g', f', b1, b2, b3, b4, b5⟩ := h'
  rw [a1] at b1
  injection b1 with b1; injection b1 with b1; injection b1 with _ b1
  injection b1 with c1 b1; injection b1 with c2 b1; injection b1 with c3 b1; injection b1 with c4 _
  injection c1 with c1; injection c2 with c2; injection c3 with c3; injection c4 with c4
  subst c1 c2
  have hl : L.length = L'.length := nI_inj' (by omega) (by omega) c3
  rw [a2] at b2
  injection b2 with b2; injection b2 with b2; injection b2 with _ b2; injection b2 with _ b2
  injection b2 with b2; injection b2 with b2; injection b2 with b2; injection b2 with b2
  rw [a3] at b3
  injection b3 with b3; injection b3 with b3; injection b3 with _ b3; injection b3 with _ b3
  injection b3 with b3
  subst b2 b3
  refine ⟨List.ext_getElem? (fun i => ?_), c4⟩
  by_cases c : i < L.length
  · obtain ⟨u, hu⟩ : ∃ u, L[i]? = some u := ⟨_, List.getElem?_eq_getElem c⟩
    obtain ⟨u', hu'⟩ : ∃ u', L'[i]? = some u' := ⟨_, List.getElem?_eq_getElem (by omega)⟩
    obtain ⟨p1, p2, -⟩ := a5 i u.1 u.2 hu
    obtain ⟨p1', p2', -⟩ := b5 i u'.1 u'.2 hu'
    rw [p1] at p1'
    injection p1' with p1'
    rw [hu, hu', Prod.ext p1' (p2.symm.trans p2')]
  · rw [List.getElem?_eq_none (by omega), List.getElem?_eq_none (by omega)]
theorem mnR.uq : ∀ {H H' m : Nat} {D D' : Nat × (Bool → List oBr)}, mnR V sl ti H m D → mnR V sl ti H' m D' → D = D'
  | 0, _, _, _, _, h, _ => h.elim
  | _ + 1, 0, _, _, _, _, h => h.elim
  | H + 1, H' + 1, m, D, D', ⟨fs, h1, h⟩, ⟨fs', h1', h'⟩ => by
    rw [h1] at h1'
    injection h1' with h1'; injection h1' with h1'; injection h1' with _ h1'
    subst h1'
    have kd : ∀ {a b : Int32}, fs[0]? = some (.int a) → fs[0]? = some (.int b) → a = b := fun e e' => by
      rw [e] at e'
      injection e' with e'; injection e' with e'
    have rf : ∀ {i a b : Nat}, fs[i]? = some (.ref a) → fs[i]? = some (.ref b) → a = b := fun e e' => by
      rw [e] at e'
      injection e' with e'; injection e' with e'
    have n3 : ∀ an : Bool, (if an = true then (302 : Int32) else 303) ≠ 217 ∧ (if an = true then (302 : Int32) else 303) ≠ 402 ∧ (if an = true then (302 : Int32) else 303) ≠ 403 ∧ ∀ bo : Bool, (if an = true then (302 : Int32) else 303) ≠ (if bo = true then 223 else 205) := by decide
    have n2 : ∀ bo : Bool, (if bo = true then (223 : Int32) else 205) ≠ 217 ∧ (if bo = true then (223 : Int32) else 205) ≠ 402 ∧ (if bo = true then (223 : Int32) else 205) ≠ 403 := by decide
    rcases h with ⟨e, x, E, e1, e2, e3⟩ | ⟨an, li, dd, cap, q, mc, g, Ds, e, e1, e2, e3, ⟨e4, e4'⟩, e5, e6⟩ | ⟨bo, e, e3⟩ | ⟨x, e, e1, e2⟩ | ⟨su, na, ta, cap, L, pl, r, e, e1, e2, e3, e4, e5⟩ <;> rcases h' with ⟨f, x', E', f1, f2, f3⟩ | ⟨an', li', dd', cap', q', mc', g', Ds', f, f1, f2, f3, ⟨f4, f4'⟩, f5, f6⟩ | ⟨bo', f, f3⟩ | ⟨x', f, f1, f2⟩ | ⟨su', na', ta', cap', L', pl', r', f, f1, f2, f3, f4, f5⟩
    · obtain rfl := rf e1 f1
      rw [e3, f3, mnR.uq e2 f2]
    · exact absurd (kd f e) (n3 an').1
    · exact absurd (kd f e) (n2 bo').1
    · exact absurd (kd f e) (by decide)
    · exact absurd (kd f e) (by decide)
    · exact absurd (kd e f) (n3 an).1
    · have ea : an = an' := by
        have := kd e f
        revert this
        cases an <;> cases an' <;> decide
      subst ea
      obtain rfl := rf e1 f1
      rw [e2] at f2
      injection f2 with f2; injection f2 with f2; injection f2 with _ f2; injection f2 with _ f2; injection f2 with g1 f2; injection f2 with g2 _
      injection g1 with g1; injection g2 with g2
      subst g1
      have hq : q = q' := nI_inj' e4' f4' g2
      rw [e3] at f3
      injection f3 with f3; injection f3 with f3; injection f3 with _ f3; injection f3 with _ f3; injection f3 with f3; injection f3 with f3; injection f3 with f3; injection f3 with f3
      subst f3
      have hD : Ds = Ds' := List.ext_getElem? (fun i => by
        by_cases c : i < Ds.length
        · obtain ⟨u, hu⟩ : ∃ u, Ds[i]? = some u := ⟨_, List.getElem?_eq_getElem c⟩
          obtain ⟨u', hu'⟩ : ∃ u', Ds'[i]? = some u' := ⟨_, List.getElem?_eq_getElem (by omega)⟩
          obtain ⟨y, y1, y2⟩ := e5 i u hu
          obtain ⟨y', y1', y2'⟩ := f5 i u' hu'
          rw [y1] at y1'
          injection y1' with y1'
          subst y1'
          rw [hu, hu', mnR.uq y2 y2']
        · rw [List.getElem?_eq_none (by omega), List.getElem?_eq_none (by omega)])
      rw [e6, f6, hD]
    · exact absurd (kd e f) ((n3 an).2.2.2 bo')
    · exact absurd (kd e f) (n3 an).2.1
    · exact absurd (kd e f) (n3 an).2.2.1
    · exact absurd (kd e f) (n2 bo).1
    · exact absurd (kd f e) ((n3 an').2.2.2 bo)
    · have ea : bo = bo' := by
        have := kd e f
        revert this
        cases bo <;> cases bo' <;> decide
      rw [e3, f3, ea]
    · exact absurd (kd e f) (n2 bo).2.1
    · exact absurd (kd e f) (n2 bo).2.2
    · exact absurd (kd e f) (by decide)
    · exact absurd (kd f e) (n3 an').2.1
    · exact absurd (kd f e) (n2 bo').2.1
    · obtain rfl := rf e1 f1
      rw [e2, f2]
    · exact absurd (kd e f) (by decide)
    · exact absurd (kd e f) (by decide)
    · exact absurd (kd f e) (n3 an').2.2.1
    · exact absurd (kd f e) (n2 bo').2.2
    · exact absurd (kd e f) (by decide)
    · obtain rfl := rf e3 f3
      have hr : r = r' := jRc_uq e2 f2 (by
        rw [e1] at f1
        injection f1 with f1; injection f1 with f1)
      obtain ⟨rfl, rfl⟩ := e4.uq f4
      rw [e5, f5, hr]
theorem mnV_eq {H m : Nat} {D : Nat × (Bool → List oBr)} (h : mnR V sl ti H m D) : mnV V sl ti m = D := by
  unfold mnV
  have hx : ∃ D, ∃ H, mnR V sl ti H m D := ⟨D, H, h⟩
  rw [dif_pos hx]
  obtain ⟨H', h'⟩ := Classical.choose_spec hx
  exact h'.uq h
end MNU
