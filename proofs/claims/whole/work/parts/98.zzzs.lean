/-! the reference: namesOfCondition -/
def kCt (f pp ee : Nat → Int32) : tT → kSt → kSt
  | .leaf, q => q
  | .inner g d _ a b, q => if g = 24 then kUse f pp ee d.1 q else if g = 25 then kPs f pp ee d.2.2.2.2.2 (kPs f pp ee d.2.2.2.1.2 q) else kCt f pp ee b (kCt f pp ee a q)
/-- a C (false) or what stands behind its first (true), its words in range -/
def cWf (cnt : Nat) : tT → Bool → Prop
  | .leaf, l => l = true
  | .inner g d _ a b, l => (l = true ∧ g = 30 ∧ cWf cnt a false ∧ cWf cnt b true) ∨ (l = false ∧ (((g = 20 ∨ g = 21) ∧ cWf cnt a false ∧ cWf cnt b true) ∨ (g = 22 ∧ cWf cnt a false ∧ b = .leaf) ∨ (g = 23 ∧ a = .leaf ∧ b = .leaf) ∨ (g = 24 ∧ d.1 < cnt) ∨ (g = 25 ∧ pOk cnt d.2.2.2.1.2 ∧ pOk cnt d.2.2.2.2.2)))
/-- && and || in it -/
def kN : tT → Nat
  | .leaf => 0
  | .inner g _ _ a b => if g = 24 ∨ g = 25 ∨ g = 23 then 0 else kN a + kN b + (if g = 30 then 1 else 0)
/-- how deep ! stands -/
def kH : tT → Nat
  | .leaf => 0
  | .inner g _ _ a b => if g = 24 ∨ g = 25 ∨ g = 23 then 0 else max (kH a) (kH b) + (if g = 22 then 1 else 0)
/-- how deep the reference goes within -/
def kD (t : tT) : Nat := kN t + kH t
section KRD
variable {ks : Nat → Nat} {qs : List Nat} {T h0 len cnt : Nat} {kk pp ee f : Nat → Int32}
theorem kCt_12 : ∀ (t : tT) (q : kSt), (kCt f pp ee t q).1 = q.1 ∧ (kCt f pp ee t q).2.1 = q.2.1
  | .leaf, _ => ⟨rfl, rfl⟩
  | .inner g d _ a b, q => by
    unfold kCt
    by_cases c : g = 24
    · rw [if_pos c]; exact kUse_12 _ _
    rw [if_neg c]
    by_cases c2 : g = 25
    · rw [if_pos c2]
      have h1 := kPs_12 (f := f) (pp := pp) (ee := ee) d.2.2.2.1.2 q
      have h2 := kPs_12 (f := f) (pp := pp) (ee := ee) d.2.2.2.2.2 (kPs f pp ee d.2.2.2.1.2 q)
      exact ⟨h2.1.trans h1.1, h2.2.trans h1.2⟩
    · rw [if_neg c2]
      have h1 := kCt_12 a q
      have h2 := kCt_12 b (kCt f pp ee a q)
      exact ⟨h2.1.trans h1.1, h2.2.trans h1.2⟩
/-- a call of 37 at node m gives q' -/
def k37 (ks : Nat → Nat) (qs : List Nat) (T h0 : Nat) (τ : zSt) (m D : Nat) (q' : kSt) : Prop := ∀ n, D ≤ n → ∃ τ', zF h0 qs ks T (n + 4) 37 [.ref h0, .int (nI m)] τ = some (none, τ') ∧ kR τ' q' ∧ kFm τ τ'
theorem k37_two {τ : zSt} {m m0 mb D Da g : Nat} {q' q'' : kSt} (hm : m < 2100) (hg : g = 20 ∨ g = 21) (h6 : τ.2.2.1 6 m = nI g) (h9 : τ.2.2.1 9 m = nI m0) (h10 : τ.2.2.1 10 m = nI mb) (H : k37 ks qs T h0 τ m0 D q') (Hb : ∀ υ, kFm τ υ → kR υ q' → k37 ks qs T h0 υ mb Da q'') : k37 ks qs T h0 τ m (max D Da + 1) q'' := fun n hn => by
  obtain ⟨n, rfl⟩ : ∃ n', n = n' + 1 := ⟨n - 1, by omega⟩
  obtain ⟨υ, u1, u2, u3⟩ := H n (by omega)
  obtain ⟨v, v1, v2, v3⟩ := Hb υ u3 u2 n (by omega)
  have e10 : υ.2.2.1 10 m = nI mb := by rw [u3.2.2.1 10 (by decide) (by decide) (by decide)]; exact h10
  rw [zE_namesOfCondition]
  unfold b_namesOfCondition
  simp only [zgd, zin_n hm (by decide), if_true, nI_clamp (show m < 2 ^ 31 by omega), h6, h9]
  rcases hg with rfl | rfl
  · rw [if_pos (by decide)]
    simp only [show n + 1 + 3 = n + 4 from by omega, u1, zcv, e10, v1]
    exact ⟨v, rfl, v2, u3.tr v3⟩
  · rw [if_neg (by decide), if_pos (by decide)]
    simp only [show n + 1 + 3 = n + 4 from by omega, u1, zcv, e10, v1]
    exact ⟨v, rfl, v2, u3.tr v3⟩
end KRD
