/-! mustFit() of the reference -/
def gLn (y : tY) : Bool := yK y == 4 || yK y == 5
/-- the reference knows whether a NAME is a length, a size -/
def uIs (Γ : uGm) (τ : zSt) (x : gN) : Prop := τ.2.2.1 66 (Γ.1 x) = b01 (gLn (Γ.2.2.2.2.1 x)) ∧ τ.2.2.1 67 (Γ.1 x) = b01 (yK (Γ.2.2.2.2.1 x) == 5)
def uIq (Γ : uGm) (τ : zSt) (sc : List gEn) : Prop := ∀ x, x ∈ scN sc → uNm Γ x.1 ∧ uIs Γ τ x.1
/-- nothing but lengths and sizes is written anywhere -/
def uKl (τ τ' : zSt) : Prop := (∀ k, uAy k → k ≠ 66 → k ≠ 67 → τ'.2.2.1 k = τ.2.2.1 k) ∧ τ'.1 126 = τ.1 126 ∧ τ'.1 63 = τ.1 63 ∧ τ'.2.1 64 = τ.2.1 64
/-- and they stay right -/
def uIk (Γ : uGm) (τ τ' : zSt) : Prop := τ'.2.2.1 66 1500 = τ.2.2.1 66 1500 ∧ ∀ x, uNm Γ x → uIs Γ τ x → uIs Γ τ' x
def yFr : tY → Nat
  | .leaf => 0
  | .inner k _ _ l r => if k = 0 then yFr l + yFr r + yNd r else 0
def yFs : tY → Nat
  | .leaf => 0
  | .inner k _ _ l r => if k = 0 then yFs l + yFs r + yLs r else 0
def yFe : tY → Nat
  | .leaf => 0
  | .inner k _ _ l r => if k = 0 then yFe l + yFe r + 1 else 0
/-- what mustFit() of the shape y takes -/
def fitC (y : tY) : Nat → Nat := fun k => if k = 75 then yFr y else if k = 79 then yFs y else if k = 91 then yFs y else if k = 109 then yFe y else if k = 116 then yLs y else 0
section UMF
variable {ks : Nat → Nat} {qs : List Nat} {T h0 : Nat} {Γ : uGm} {CD : tT → Nat → Prop} {τ τ' τ'' : zSt} {v v' : Nat → Nat}
theorem uKl.rf (τ : zSt) : uKl τ τ := ⟨fun _ _ _ _ => rfl, rfl, rfl, rfl⟩
theorem uKl.tr (h : uKl τ τ') (g : uKl τ' τ'') : uKl τ τ'' := ⟨fun k a b c => (g.1 k a b c).trans (h.1 k a b c), g.2.1.trans h.2.1, g.2.2.1.trans h.2.2.1, g.2.2.2.trans h.2.2.2⟩
theorem uKe.l (h : uKe τ τ') : uKl τ τ' := ⟨fun k a _ _ => h.1 k a, h.2⟩
theorem uKe.ik (h : uKe τ τ') : uIk Γ τ τ' := ⟨by rw [h.1 66 (by unfold uAy; omega)], fun x _ g => by
  unfold uIs
  rw [h.1 66 (by unfold uAy; omega), h.1 67 (by unfold uAy; omega)]
  exact g⟩
theorem uIk.tr (h : uIk Γ τ τ') (g : uIk Γ τ' τ'') : uIk Γ τ τ'' := ⟨g.1.trans h.1, fun x a b => g.2 x a (h.2 x a b)⟩
theorem uIq.ik {sc : List gEn} (h : uIk Γ τ τ') (g : uIq Γ τ sc) : uIq Γ τ' sc := fun x hx => ⟨(g x hx).1, h.2 _ (g x hx).1 (g x hx).2⟩
/-- a function is known by its tag -/
theorem uTy.k {k : Nat} {l r : tY} {t : Nat} {A : gTy} (h : uTy Γ v τ (.inner k () () l r) t A) : t < v 75 ∧ τ.2.2.1 42 t = (if k = 0 then 4 else nI (uK k)) ∧ k ≤ 4 := by
  obtain ⟨h1, h2, h3⟩ := h
  by_cases z : k = 0
  · rw [if_pos z] at h3 ⊢
    exact ⟨h1, h3.1, by omega⟩
  · rw [if_neg z] at h3 ⊢
    exact ⟨h1, h3.2.1, h3.1⟩
/-- a NAME's kind is written -/
theorem uIk.kn {x : gN} {t : Nat} {y : tY} (hx : uNm Γ x) (hk : Γ.2.2.2.2.1 x = y) (hy : ∃ k l r, y = .inner k () () l r ∧ τ.2.2.1 42 t = (if k = 0 then 4 else nI (uK k)) ∧ k ≤ 4) (h66 : τ'.2.2.1 66 = upd (τ.2.2.1 66) (Γ.1 x) (b01 (uLn (τ.2.2.1 42 t)))) (h67 : τ'.2.2.1 67 = upd (τ.2.2.1 67) (Γ.1 x) (b01 (τ.2.2.1 42 t == 5))) : uIk Γ τ τ' ∧ uIs Γ τ' x := by
  obtain ⟨k, l, r, e, h42, h4⟩ := hy
  have own : uIs Γ τ' x := by
    unfold uIs
    rw [h66, h67, hk, e]
    show (if Γ.1 x = Γ.1 x then _ else _) = _ ∧ (if Γ.1 x = Γ.1 x then _ else _) = _
    rw [if_pos rfl, if_pos rfl, h42]
    have k5 : k = 0 ∨ k = 1 ∨ k = 2 ∨ k = 3 ∨ k = 4 := by omega
    rcases k5 with rfl | rfl | rfl | rfl | rfl <;> exact ⟨rfl, rfl⟩
  refine ⟨⟨by rw [h66]; exact if_neg (by have := hx.1; omega), fun z hz hs => ?_⟩, own⟩
  by_cases e' : z = x
  · rw [e']; exact own
  · have ne : Γ.1 z ≠ Γ.1 x := fun w => e' (by rw [← hz.2, w, hx.2])
    unfold uIs
    rw [h66, h67]
    show (if Γ.1 z = Γ.1 x then _ else _) = _ ∧ (if Γ.1 z = Γ.1 x then _ else _) = _
    rw [if_neg ne, if_neg ne]
    exact hs
theorem scN_nm (x : gN) (A : gTy) (sc : List gEn) : scN (gNm x A sc) = if gMs (gSy A) = true then (x, A) :: scN sc else scN sc := by
  unfold gNm
  split <;> rfl
theorem scC_nm (x : gN) (A : gTy) (sc : List gEn) : scC (gNm x A sc) = scC sc := by
  unfold gNm
  split <;> rfl
/-- knows(), as the scope sees it -/
theorem uSc.kn {N i t : Nat} {x : gN} {A : gTy} {sc : List gEn} {e g : Int32} {y : tY} (h : uSc N CD Γ v τ sc e g) (hA : uTy Γ v τ y t A) (hi : i < v 109) (h68 : τ.2.2.1 68 i = nI (Γ.1 x)) (h69 : τ.2.2.1 69 i = nI t) (h70 : τ.2.2.1 70 i = e) : uSc (N + 1) CD Γ v τ (gNm x A sc) (nI i) g := by
  obtain ⟨⟨ch, a1, a2, a3⟩, b⟩ := h
  refine ⟨?_, by rw [scC_nm]; exact b⟩
  cases y with
  | leaf => exact False.elim hA
  | inner k u1 u2 l r =>
    have hk := uTy.k hA
    have eS : gSy A = .inner k () () l r := hA.2.1
    by_cases z : gMs (gSy A) = true
    · refine ⟨some (x, A) :: ch, ?_, by simp only [List.length_cons]; omega, i, t, ⟨rfl, hi⟩, ⟨h69, hk.1⟩, ⟨h68, z, by show uTy Γ v τ (gSy A) t A; rw [eS]; exact hA⟩, by rw [h70]; exact a3⟩
      rw [scN_nm, if_pos z, ← a1]
      rfl
    · refine ⟨none :: ch, ?_, by simp only [List.length_cons]; omega, i, t, ⟨rfl, hi⟩, ⟨h69, hk.1⟩, ?_, by rw [h70]; exact a3⟩
      · rw [scN_nm, if_neg z, ← a1]
        rfl
      · show τ.2.2.1 42 t = 2 ∨ τ.2.2.1 42 t = 4
        rw [hk.2.1]
        rw [eS] at z
        have k5 : k = 0 ∨ k = 1 ∨ k = 2 ∨ k = 3 ∨ k = 4 := by have := hk.2.2; omega
        rcases k5 with rfl | rfl | rfl | rfl | rfl
        · exact Or.inr rfl
        · exact absurd rfl z
        · exact Or.inl rfl
        · exact absurd rfl z
        · exact absurd rfl z
end UMF
