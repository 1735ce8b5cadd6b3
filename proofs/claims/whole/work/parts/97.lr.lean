/-! how the plain states of class and reference stand to each other (tape, place, OUT, value, fuel), and the calls that ask no more -/
/-- tape, place, OUT, value and fuel are the same on both sides -/
def lRel (x : Nat) (σ : oSt) (τ : zSt) : Prop := ∃ (fs fm : List Value) (ta oa ma No : Nat) (ft go : Nat → Int32), (σ.1 x = some (.inr (14, fs)) ∧ fs.length = 13) ∧ (fs[0]? = some (.ref ta) ∧ fs[1]? = some (.int (τ.1 3)) ∧ fs[5]? = some (.int (τ.1 69)) ∧ fs[6]? = some (.ref oa) ∧ fs[8]? = some (.int (τ.1 5)) ∧ fs[12]? = some (.ref ma)) ∧ (σ.1 ta = some (.inl (.byte, 2000, .inl ft)) ∧ 0 ≤ (τ.1 3).toInt ∧ (τ.1 3).toInt ≤ 2000 ∧ ∀ j : Nat, (j : Int) < (τ.1 3).toInt → ft j = τ.2.2.1 0 j) ∧ (σ.1 oa = some (.inl (.byte, No, .inl go)) ∧ 0 ≤ (τ.1 5).toInt ∧ (τ.1 5).toInt ≤ No ∧ No ≤ 16000 ∧ (∀ j : Nat, (j : Int) < (τ.1 5).toInt → go j = τ.2.2.1 2 j) ∧ oa ≠ ta) ∧ (σ.1 ma = some (.inr (5, fm)) ∧ fm[16]? = some (.long (if τ.1 163 = 1 then τ.2.1 166 else 0)) ∧ fm[17]? = some (.int (τ.1 165)) ∧ ma ≠ x)
/-- all but the tape and its length is as it was -/
def lKeep (x : Nat) (σ : oSt) (τ : zSt) (u : oSt) (v : zSt) : Prop := (∀ k, k ≠ 1 → ofd u (some x) 14 k = ofd σ (some x) 14 k) ∧ (∀ q, q ≠ x → ofd σ (some x) 14 0 ≠ some (.ref q) → u.1 q = σ.1 q) ∧ u.2 = σ.2 ∧ (∀ k, k ≠ 3 → v.1 k = τ.1 k) ∧ v.2.1 = τ.2.1 ∧ (∀ i, i ≠ 0 → v.2.2.1 i = τ.2.2.1 i) ∧ v.2.2.2 = τ.2.2.2
theorem lKeep.rf (x : Nat) (σ : oSt) (τ : zSt) : lKeep x σ τ σ τ := ⟨fun _ _ => rfl, fun _ _ _ => rfl, rfl, fun _ _ => rfl, rfl, fun _ _ => rfl, rfl⟩
theorem ofd_at {σ : oSt} {a ci k : Nat} {fs : List Value} (h : σ.1 a = some (.inr (ci, fs))) : ofd σ (some a) ci k = fs[k]? := by
  simp only [ofd, h, if_true]
theorem opf_at {σ : oSt} {a ci k : Nat} {fs : List Value} {v : Value} (h : σ.1 a = some (.inr (ci, fs))) (hk : k < fs.length) : opf σ (some a) ci k v = some (oput σ a (.inr (ci, fs.set k v))) := by
  simp only [opf, h, hk, and_self, if_true]
theorem oob_at {σ : oSt} {a ci : Nat} {fs : List Value} (h : σ.1 a = some (.inr (ci, fs))) : oob σ (some a) ci = some a := by
  simp only [oob, h, if_true]
theorem oai_at {σ : oSt} {a n : Nat} {ty : FieldType} {f : Nat → Int32} {i : Int32} (h : σ.1 a = some (.inl (ty, n, .inl f))) (hi : zin i n = true) : oai σ (some a) ty i = some (f i.toNatClampNeg) := by
  simp only [oai, h, hi, and_self, if_true]
theorem osi_at {σ : oSt} {a n : Nat} {ty : FieldType} {f : Nat → Int32} {i v : Int32} (h : σ.1 a = some (.inl (ty, n, .inl f))) (hi : zin i n = true) : osi σ (some a) ty i v = some (oput σ a (.inl (ty, n, .inl (upd f i.toNatClampNeg v)))) := by
  simp only [osi, h, hi, and_self, if_true]
theorem oput_eq (σ : oSt) (a : Nat) (c : oC) : (oput σ a c).1 a = some c := by simp [oput]
theorem oput_ne {σ : oSt} {a b : Nat} {c : oC} (h : b ≠ a) : (oput σ a c).1 b = σ.1 b := by simp [oput, h]
theorem lRel.ob {x : Nat} {σ : oSt} {τ : zSt} (h : lRel x σ τ) : lob σ x = true := by
  obtain ⟨fs, fm, ta, oa, ma, No, ft, go, ⟨h1, -⟩, -⟩ := h
  unfold lob
  rw [oob_at h1]; rfl
theorem lcpI_ok {A : oRs} {B : zRs} {r : Int32} {u : oSt} {v : zSt} (h1 : A = some (some (.int r), u)) (h2 : B = some (some (.int r), v)) : lcpI A B = some (u, v) := by
  rw [h1, h2]
  simp [lcpI]
theorem lcpL_ok {A : oRs} {B : zRs} {r : Int64} {u : oSt} {v : zSt} (h1 : A = some (some (.long r), u)) (h2 : B = some (some (.long r), v)) : lcpL A B = some (u, v) := by
  rw [h1, h2]
  simp [lcpL]
section LR
variable {κ : oKv} {ks : Nat → Nat} {qs : List Nat} {T n n' x y : Nat} {a : Nat → Int32} {σ : oSt} {τ : zSt}
theorem lr_place (h : lRel x σ τ) : lst (oF κ T (n + 1)) (zF y qs ks T (n' + 1)) x y a σ τ 4 = some (σ, τ) := by
  obtain ⟨fs, fm, ta, oa, ma, No, ft, go, ⟨h1, -⟩, ⟨-, -, f5, -, -, -⟩, -⟩ := h
  refine lcpI_ok (r := τ.1 69) ?_ (zE_place y qs ks T n' τ)
  refine (oE_X12_place κ T n (some x) σ).trans ?_
  simp only [ob_X12_place, ofd_at h1, f5, ovi, obn]
theorem lr_fuel (h : lRel x σ τ) : lst (oF κ T (n + 1)) (zF y qs ks T (n' + 1)) x y a σ τ 11 = some (σ, τ) := by
  obtain ⟨fs, fm, ta, oa, ma, No, ft, go, ⟨h1, -⟩, ⟨-, -, -, -, -, f12⟩, -, -, ⟨m1, -, m3, -⟩⟩ := h
  refine lcpI_ok (r := τ.1 165) ?_ (zE_fuel y qs ks T n' τ)
  refine (oE_X12_fuel κ T n (some x) σ).trans ?_
  simp only [ob_X12_fuel, ofd_at h1, f12, ovr, obn, ofd_at m1, m3, ovi]
theorem lr_value (h : lRel x σ τ) : lst (oF κ T (n + 1)) (zF y qs ks T (n' + 1)) x y a σ τ 10 = some (σ, τ) := by
  obtain ⟨fs, fm, ta, oa, ma, No, ft, go, ⟨h1, -⟩, ⟨-, -, -, -, -, f12⟩, -, -, ⟨m1, m2, -, -⟩⟩ := h
  refine lcpL_ok (r := if τ.1 163 = 1 then τ.2.1 166 else 0) ?_ ?_
  · refine (oE_X12_value κ T n (some x) σ).trans ?_
    simp only [ob_X12_value, ofd_at h1, f12, ovr, obn, ofd_at m1, m2, ovl]
  · refine (zE_value y qs ks T n' τ).trans ?_
    unfold b_value
    split <;> rfl
theorem i32_pos {i : Int32} (h : ¬ i < 0) : 0 ≤ i.toInt := by
  have := Int32.not_lt.mp h
  simpa using Int32.le_iff_toInt_le.mp this
theorem i32_cl {i : Int32} (h : 0 ≤ i.toInt) : (i.toNatClampNeg : Int) = i.toInt := by
  show ((i.toInt.toNat : Nat) : Int) = i.toInt
  omega
theorem lr_out (h : lRel x σ τ) : lst (oF κ T (n + 1)) (zF y qs ks T (n' + 1)) x y a σ τ 6 = some (σ, τ) := by
  obtain ⟨fs, fm, ta, oa, ma, No, ft, go, ⟨h1, -⟩, ⟨-, -, -, f6, f8, -⟩, -, ⟨o1, o2, o3, o4, o5, -⟩, -⟩ := h
  have hO := oE_X12_out κ T n (some x) (a 1) σ
  have hZ := zE_out y qs ks T n' (a 1) τ
  by_cases c1 : a 1 = -1
  · refine lcpI_ok (r := τ.1 5) (hO.trans ?_) (hZ.trans ?_)
    · simp only [ob_X12_out, if_pos c1, ofd_at h1, f8, ovi, obn]
    · simp only [b_out, if_pos c1]
  · by_cases c2 : a 1 < 0
    · refine lcpI_ok (r := -1) (hO.trans ?_) (hZ.trans ?_)
      · simp only [ob_X12_out, if_neg c1, if_pos c2]
      · simp only [b_out, if_neg c1, if_pos c2]
    · by_cases c3 : τ.1 5 ≤ a 1
      · refine lcpI_ok (r := -1) (hO.trans ?_) (hZ.trans ?_)
        · simp only [ob_X12_out, if_neg c1, if_neg c2, ofd_at h1, f8, ovi, obn, if_pos c3]
        · simp only [b_out, if_neg c1, if_neg c2, if_pos c3]
      · have p1 := i32_pos c2
        have p2 : (a 1).toInt < (τ.1 5).toInt := by
          have := Int32.not_le.mp c3
          exact Int32.lt_iff_toInt_lt.mp this
        have z1 : zin (a 1) No = true := decide_eq_true ⟨p1, by omega⟩
        have z2 : zin (a 1) 16000 = true := decide_eq_true ⟨p1, by omega⟩
        have e1 : go (a 1).toNatClampNeg = τ.2.2.1 2 (a 1).toNatClampNeg := o5 _ (by rw [i32_cl p1]; exact p2)
        refine lcpI_ok (r := τ.2.2.1 2 (a 1).toNatClampNeg &&& 255) (hO.trans ?_) (hZ.trans ?_)
        · simp only [ob_X12_out, if_neg c1, if_neg c2, ofd_at h1, f8, f6, ovi, ovr, obn, if_neg c3, oai_at o1 z1, e1]
        · simp only [b_out, if_neg c1, if_neg c2, if_neg c3, z2, zgd, if_true]
theorem lr_end (h : lRel x σ τ) : ∃ (u : oSt) (v : zSt), lst (oF κ T (n + 1)) (zF y qs ks T (n' + 1)) x y a σ τ 1 = some (u, v) ∧ lRel x u v ∧ lKeep x σ τ u v := by
  have h0 := h
  obtain ⟨fs, fm, ta, oa, ma, No, ft, go, ⟨h1, hlen⟩, ⟨f0, f1, f5, f6, f8, f12⟩, ⟨t1, t2, t3, t4⟩, ⟨o1, o2, o3, o4, o5, o6⟩, ⟨m1, m2, m3, m4⟩⟩ := h
  have hO := oE_X12_end κ T n (some x) (a 1) σ
  have hZ := zE_end y qs ks T n' (a 1) τ
  by_cases c1 : a 1 < 0
  · refine ⟨σ, τ, lcpI_ok (r := 0) (hO.trans ?_) (hZ.trans ?_), h0, lKeep.rf _ _ _⟩
    · simp only [ob_X12_end, if_pos c1]
    · simp only [b_end, if_pos c1]
  · by_cases c2 : a 1 ≤ τ.1 3
    · refine ⟨oput σ x (.inr (14, fs.set 1 (.int (a 1)))), zI τ 3 (a 1), lcpI_ok (r := 1) (hO.trans ?_) (hZ.trans ?_), ?_, ?_⟩
      · simp only [ob_X12_end, if_neg c1, ofd_at h1, f1, ovi, obn, if_pos c2, opf_at h1 (show 1 < fs.length by omega)]
      · simp only [b_end, if_neg c1, if_pos c2, zlet]
      · have p1 := i32_pos c1
        have p2 : (a 1).toInt ≤ (τ.1 3).toInt := Int32.le_iff_toInt_le.mp c2
        have nta : ta ≠ x := fun e => by
          rw [e, h1] at t1; cases t1
        have noa : oa ≠ x := fun e => by
          rw [e, h1] at o1; cases o1
        refine ⟨fs.set 1 (.int (a 1)), fm, ta, oa, ma, No, ft, go, ⟨oput_eq _ _ _, by rw [List.length_set]; exact hlen⟩, ⟨?_, ?_, ?_, ?_, ?_, ?_⟩, ⟨by rw [oput_ne nta]; exact t1, p1, by show (a 1).toInt ≤ 2000; omega, fun j hj => t4 j (by have hj2 : (j : Int) < (a 1).toInt := hj; omega)⟩, ⟨by rw [oput_ne noa]; exact o1, o2, o3, o4, o5, o6⟩, ⟨by rw [oput_ne m4]; exact m1, m2, m3, m4⟩⟩
        · rw [List.getElem?_set_ne (by decide)]; exact f0
        · rw [List.getElem?_set_self (by omega)]; rfl
        · rw [List.getElem?_set_ne (by decide)]; exact f5
        · rw [List.getElem?_set_ne (by decide)]; exact f6
        · rw [List.getElem?_set_ne (by decide)]; exact f8
        · rw [List.getElem?_set_ne (by decide)]; exact f12
      · refine ⟨fun k hk => ?_, fun q hq _ => oput_ne hq, rfl, fun k hk => zI_ne hk, rfl, fun _ _ => rfl, rfl⟩
        rw [ofd_at (oput_eq _ _ _), ofd_at h1, List.getElem?_set_ne (Ne.symm hk)]
    · refine ⟨σ, τ, lcpI_ok (r := 0) (hO.trans ?_) (hZ.trans ?_), h0, lKeep.rf _ _ _⟩
      · simp only [ob_X12_end, if_neg c1, ofd_at h1, f1, ovi, obn, if_neg c2]
      · simp only [b_end, if_neg c1, if_neg c2]
end LR
