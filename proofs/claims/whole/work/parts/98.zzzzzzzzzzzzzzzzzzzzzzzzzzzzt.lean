/-! accepted(): what both sides show goes on -/
section LA3
variable {x jd o ca pa ph ta th len W b : Nat} {cl fa rd ps : Int32} {fo : Nat → Int64} {wk : Option Nat} {P Tr : List (Nat × Bool)} {σ u : oSt} {τ v : zSt} {fs : List Value} {w : Value}
/-- rows that are not the Judge's -/
theorem jSt.nr (J : jSt σ jd o ca pa ph ta th len W b cl fa fo rd wk ps P Tr) {a : Nat} {c} (e : σ.1 a = some (.inl c)) (h1 : c.1 ≠ .object "LiquidTongue$Node") (h2 : c.1 ≠ .object "LiquidTongue$Name") (h3 : c.1 ≠ .boolean) : a ≠ pa ∧ a ≠ ph ∧ a ≠ ta ∧ a ≠ th := by
  obtain ⟨-, -, ⟨gp, hp, a4, a5, -⟩, ⟨gt, ht, a6, a7, -⟩, -⟩ := J
  have go : ∀ {q : Nat} {t : FieldType} {y}, σ.1 q = some (.inl (t, y)) → c.1 ≠ t → a ≠ q := fun {q t y} e' h z => by
    rw [z, e'] at e
    injection e with e; injection e with e
    exact h (by rw [← e])
  exact ⟨go a4 h1, go a5 h3, go a6 h2, go a7 h3⟩
/-- **lRel goes on over accepted()** -/
theorem lRel.ac (hr : lRel x σ τ) (J : jSt σ jd o ca pa ph ta th len W b cl fa fo rd wk ps P Tr) (hx : σ.1 x = some (.inr (14, fs))) (hP : acP pa ph ta th σ u) (ux : u.1 x = some (.inr (14, (fs.set 4 w).set 5 (.int (v.1 69))))) (hv : acR τ v) : lRel x u v := by
  obtain ⟨gs, fm, t', oa, ma, No, ft, go, ⟨h1, h2⟩, ⟨f0, f1, f5, f6, f8, f12⟩, ⟨t1, t2, t3, t4⟩, ⟨o1, o2, o3, o4, o5, o6⟩, ⟨m1, m2, m3, m4⟩⟩ := hr
  rw [hx] at h1
  injection h1 with h1; injection h1 with h1; injection h1 with _ h1
  subst h1
  obtain ⟨v67, v68, vr, vl, vi⟩ := hv
  have e3 := vi 3 (by decide) (by decide) (by decide) (by decide)
  have e5 := vi 5 (by decide) (by decide) (by decide) (by decide)
  have e163 := vi 163 (by decide) (by decide) (by decide) (by decide)
  have e165 := vi 165 (by decide) (by decide) (by decide) (by decide)
  have e166 := vl.1 166 (by decide) (by decide)
  have r0 := vr 0 (by decide)
  have r2 := vr 2 (by decide)
  have st : ∀ k, k ≠ 4 → k ≠ 5 → ((fs.set 4 w).set 5 (.int (v.1 69)))[k]? = fs[k]? := fun k h4 h5 => by
    rw [List.getElem?_set_ne (fun z => h5 z.symm), List.getElem?_set_ne (fun z => h4 z.symm)]
  refine ⟨(fs.set 4 w).set 5 (.int (v.1 69)), fm, t', oa, ma, No, ft, go, ⟨ux, by rw [List.length_set, List.length_set]; exact h2⟩, ⟨by rw [st 0 (by decide) (by decide)]; exact f0, by rw [st 1 (by decide) (by decide), e3]; exact f1, List.getElem?_set_self (by rw [List.length_set]; omega), by rw [st 6 (by decide) (by decide)]; exact f6, by rw [st 8 (by decide) (by decide), e5]; exact f8, by rw [st 12 (by decide) (by decide)]; exact f12⟩, ⟨?_, by rw [e3]; exact t2, by rw [e3]; exact t3, by rw [e3, r0]; exact t4⟩, ⟨?_, by rw [e5]; exact o2, by rw [e5]; exact o3, o4, by rw [e5, r2]; exact o5, o6⟩, ⟨hP.1 ma 5 fm m1 (by decide), by rw [e163, e166]; exact m2, by rw [e165]; exact m3, m4⟩⟩
  · exact hP.2.1 t' _ t1 (fun z => by cases z) (J.nr t1 (fun z => by cases z) (fun z => by cases z) (fun z => by cases z))
  · exact hP.2.1 oa _ o1 (fun z => by cases z) (J.nr o1 (fun z => by cases z) (fun z => by cases z) (fun z => by cases z))
end LA3
