/-! the reference's types that tell more: how they lie in its rows; put() -/
/-- numbers of NAMES, of CASES, of QUALS; the QUALS; simple types of NAMES; which NAME a number is -/
abbrev uGm : Type := (gN → Nat) × (Nat × List Bool → Nat) × (tQ → Int) × List tQ × (gN → tY) × (Nat → gN)
def uNm (Γ : uGm) (x : gN) : Prop := Γ.1 x < 1500 ∧ Γ.2.2.2.2.2 (Γ.1 x) = x
def uTe (Γ : uGm) (t : gTe) : Int32 × Int32 × Int64 := match t.1 with
  | none => (-1, 0, Int64.ofInt t.2)
  | some (x, e) => (nI (Γ.1 x), Int32.ofInt e, Int64.ofInt t.2)
/-- FACTS, one behind the other -/
def uFs (Γ : uGm) (v : Nat → Nat) (τ : zSt) : List gFc → Int32 → Prop
  | [], l => l = -1
  | x :: fs, l => ∃ i, (l = nI i ∧ i < v 85) ∧ τ.2.2.1 50 i = nI x.1 ∧ (τ.2.2.1 51 i, τ.2.2.1 52 i, τ.2.2.2 54 i) = uTe Γ x.2 ∧ uFs Γ v τ fs (τ.2.2.1 53 i)
/-- what is put in, the newest first -/
def uPu (Γ : uGm) (v : Nat → Nat) (τ : zSt) : List (gN × gTe) → Int32 → Prop
  | [], l => l = -1
  | p :: G, l => ∃ i, (l = nI i ∧ i < v 91) ∧ τ.2.2.1 55 i = nI (Γ.1 p.1) ∧ (τ.2.2.1 56 i, τ.2.2.1 57 i, τ.2.2.2 59 i) = uTe Γ p.2 ∧ uPu Γ v τ G (τ.2.2.1 58 i)
/-- an INSTANCE in its rows -/
def uIn (Γ : uGm) (τ : zSt) (j : Nat) (x : gFc) : Prop := ∃ q qq, Γ.2.2.2.1[q]? = some qq ∧ τ.2.2.1 63 j = nI q ∧ ((qq.2.2.2.1 = true ∧ ∃ s, τ.2.2.1 64 j = nI (Γ.1 s) ∧ x = (qq.2.1, (some (s, if qq.2.2.1 = true then -1 else 1), Γ.2.2.1 qq))) ∨ (qq.2.2.2.1 = false ∧ τ.2.2.1 64 j = -1 ∧ x = (qq.2.1, (none, Γ.2.2.1 qq))))
/-- a CASE -/
def uCs (Γ : uGm) (v : Nat → Nat) (τ : zSt) (c : Nat) (F : List gFc) : Prop := c < v 98 ∧ ∃ a, τ.2.2.1 61 c = nI a ∧ τ.2.2.1 62 c = nI (a + F.length) ∧ a + F.length ≤ v 99 ∧ ∀ i x, F[i]? = some x → uIn Γ τ (a + i) x
/-- what is said -/
def uSd (Γ : uGm) (v : Nat → Nat) (τ : zSt) (s : Nat) (A : gTy) : Prop := s < v 79 ∧ uPu Γ v τ A.2.reverse (τ.2.2.1 49 s) ∧ match A.1 with
  | .inl x => τ.2.2.1 47 s = -1 ∧ uFs Γ v τ x.2 (τ.2.2.1 48 s)
  | .inr m => τ.2.2.1 47 s = nI (Γ.2.1 (m.1, m.2.1)) ∧ τ.2.2.1 48 s = -1 ∧ uCs Γ v τ (Γ.2.1 (m.1, m.2.1)) (gIn Γ.2.2.1 Γ.2.2.2.1 m.2.2.1 m.2.2.2.2)
def uK (k : Nat) : Nat := if k = 4 then 5 else k
/-- a type in its rows -/
def uTy (Γ : uGm) (v : Nat → Nat) (τ : zSt) : tY → Nat → gTy → Prop
  | .leaf, _, _ => False
  | .inner k _ _ l r, t, A => t < v 75 ∧ gSy A = .inner k () () l r ∧ if k = 0 then (τ.2.2.1 42 t = 4 ∧ (∃ m, A.1 = .inr m) ∧ (τ.2.2.1 44 t = nI (Γ.1 (gPn A)) ∧ uNm Γ (gPn A) ∧ Γ.2.2.2.2.1 (gPn A) = l) ∧ ∃ tl tr, τ.2.2.1 45 t = nI tl ∧ τ.2.2.1 46 t = nI tr ∧ uTy Γ v τ l tl (gTk A) ∧ uTy Γ v τ r tr (gAn A)) else (k ≤ 4 ∧ τ.2.2.1 42 t = nI (uK k) ∧ (k ≠ 2 → ∃ s, τ.2.2.1 43 t = nI s ∧ uSd Γ v τ s A))
section UTY
variable {Γ : uGm} {v v' : Nat → Nat} {τ τ' : zSt}
theorem uFr.r (h : uFr v τ τ') {k c i : Nat} (hk : uCo k = some c) (hy : ¬ uAy k) (hi : i < v c) : τ'.2.2.1 k i = τ.2.2.1 k i := h.2.2.1 k hy i (fun c' e => by rw [hk] at e; injection e with e; subst e; exact hi)
theorem uFr.l (h : uFr v τ τ') {k c i : Nat} (hk : uCl k = some c) (hi : i < v c) : τ'.2.2.2 k i = τ.2.2.2 k i := h.2.2.2 k i (fun c' e => by rw [hk] at e; injection e with e; subst e; exact hi)
theorem uFs.up (hv : ∀ k, v k ≤ v' k) (h : uFr v τ τ') : ∀ (fs : List gFc) (l : Int32), uFs Γ v τ fs l → uFs Γ v' τ' fs l
  | [], _, g => g
  | x :: fs, l, ⟨i, ⟨g1, g2⟩, g3, g4, g5⟩ => ⟨i, ⟨g1, Nat.lt_of_lt_of_le g2 (hv 85)⟩, (h.r (c := 85) (by decide) (by unfold uAy; omega) g2).trans g3, by rw [h.r (c := 85) (by decide) (by unfold uAy; omega) g2, h.r (c := 85) (by decide) (by unfold uAy; omega) g2, h.l (c := 85) (by decide) g2]; exact g4, by rw [h.r (c := 85) (by decide) (by unfold uAy; omega) g2]; exact uFs.up hv h fs _ g5⟩
theorem uPu.up (hv : ∀ k, v k ≤ v' k) (h : uFr v τ τ') : ∀ (G : List (gN × gTe)) (l : Int32), uPu Γ v τ G l → uPu Γ v' τ' G l
  | [], _, g => g
  | x :: G, l, ⟨i, ⟨g1, g2⟩, g3, g4, g5⟩ => ⟨i, ⟨g1, Nat.lt_of_lt_of_le g2 (hv 91)⟩, (h.r (c := 91) (by decide) (by unfold uAy; omega) g2).trans g3, by rw [h.r (c := 91) (by decide) (by unfold uAy; omega) g2, h.r (c := 91) (by decide) (by unfold uAy; omega) g2, h.l (c := 91) (by decide) g2]; exact g4, by rw [h.r (c := 91) (by decide) (by unfold uAy; omega) g2]; exact uPu.up hv h G _ g5⟩
theorem uCs.up {c : Nat} {F : List gFc} (hv : ∀ k, v k ≤ v' k) (h : uFr v τ τ') (g : uCs Γ v τ c F) : uCs Γ v' τ' c F := by
  obtain ⟨g1, a, g2, g3, g4, g5⟩ := g
  refine ⟨Nat.lt_of_lt_of_le g1 (hv 98), a, (h.r (c := 98) (by decide) (by unfold uAy; omega) g1).trans g2, (h.r (c := 98) (by decide) (by unfold uAy; omega) g1).trans g3, Nat.le_trans g4 (hv 99), fun i x e => ?_⟩
  have hi : a + i < v 99 := by have := (List.getElem?_eq_some_iff.mp e).1; omega
  obtain ⟨q, qq, e1, e2, e3⟩ := g5 i x e
  refine ⟨q, qq, e1, (h.r (c := 99) (by decide) (by unfold uAy; omega) hi).trans e2, ?_⟩
  rw [h.r (k := 64) (c := 99) (by decide) (by unfold uAy; omega) hi]
  exact e3
theorem uSd.up {s : Nat} {A : gTy} (hv : ∀ k, v k ≤ v' k) (h : uFr v τ τ') (g : uSd Γ v τ s A) : uSd Γ v' τ' s A := by
  obtain ⟨g1, g2, g3⟩ := g
  refine ⟨Nat.lt_of_lt_of_le g1 (hv 79), by rw [h.r (c := 79) (by decide) (by unfold uAy; omega) g1]; exact uPu.up hv h _ _ g2, ?_⟩
  rw [h.r (k := 47) (c := 79) (by decide) (by unfold uAy; omega) g1, h.r (k := 48) (c := 79) (by decide) (by unfold uAy; omega) g1]
  cases hA : A.1 with
  | inl x => rw [hA] at g3; exact ⟨g3.1, uFs.up hv h _ _ g3.2⟩
  | inr m => rw [hA] at g3; exact ⟨g3.1, g3.2.1, g3.2.2.up hv h⟩
theorem uTy.up (hv : ∀ k, v k ≤ v' k) (h : uFr v τ τ') : ∀ (y : tY) (t : Nat) (A : gTy), uTy Γ v τ y t A → uTy Γ v' τ' y t A
  | .leaf, _, _, g => g
  | .inner k _ _ l r, t, A, ⟨g1, g2, g3⟩ => by
    refine ⟨Nat.lt_of_lt_of_le g1 (hv 75), g2, ?_⟩
    have e : ∀ k, 42 ≤ k → k ≤ 46 → τ'.2.2.1 k t = τ.2.2.1 k t := fun k a b => h.r (c := 75) (by unfold uCo; rw [if_pos ⟨a, b⟩]) (by unfold uAy; omega) g1
    rw [e 42 (by decide) (by decide), e 43 (by decide) (by decide), e 44 (by decide) (by decide), e 45 (by decide) (by decide), e 46 (by decide) (by decide)]
    by_cases z : k = 0
    · rw [if_pos z] at g3 ⊢
      obtain ⟨a1, a2, a3, tl, tr, a4, a5, a6, a7⟩ := g3
      exact ⟨a1, a2, a3, tl, tr, a4, a5, uTy.up hv h l tl _ a6, uTy.up hv h r tr _ a7⟩
    · rw [if_neg z] at g3 ⊢
      refine ⟨g3.1, g3.2.1, fun w => ?_⟩
      obtain ⟨s, b1, b2⟩ := g3.2.2 w
      exact ⟨s, b1, b2.up hv h⟩
/-- nodes, leaves that say something, functions -/
def yNd : tY → Nat
  | .leaf => 1
  | .inner k _ _ l r => if k = 0 then yNd l + yNd r + 1 else 1
def yLs : tY → Nat
  | .leaf => 0
  | .inner k _ _ l r => if k = 0 then yLs l + yLs r else if k = 2 then 0 else 1
def yDp : tY → Nat
  | .leaf => 0
  | .inner k _ _ l r => if k = 0 then max (yDp l) (yDp r) + 1 else 0
/-- counters up -/
def uAd (v : Nat → Nat) (r s f p : Nat) : Nat → Nat := fun k => if k = 75 then v k + r else if k = 79 then v k + s else if k = 85 then v k + f else if k = 91 then v k + p else v k
theorem uAd_le (v : Nat → Nat) (r s f p : Nat) : ∀ k, v k ≤ uAd v r s f p k := by
  intro k
  unfold uAd
  repeat' split
  all_goals omega
theorem uAd_ad (v : Nat → Nat) (r s f p r' s' f' p' : Nat) : uAd (uAd v r s f p) r' s' f' p' = uAd v (r + r') (s + s') (f + f') (p + p') := by
  funext k
  unfold uAd
  repeat' split
  all_goals omega
theorem uUp_75 (v : Nat → Nat) : uUp v 75 = uAd v 1 0 0 0 := by
  funext k
  unfold uUp uAd
  repeat' split
  all_goals omega
theorem uUp_79 (v : Nat → Nat) : uUp v 79 = uAd v 0 1 0 0 := by
  funext k
  unfold uUp uAd
  repeat' split
  all_goals omega
theorem uUp_85 (v : Nat → Nat) : uUp v 85 = uAd v 0 0 1 0 := by
  funext k
  unfold uUp uAd
  repeat' split
  all_goals omega
theorem uUp_91 (v : Nat → Nat) : uUp v 91 = uAd v 0 0 0 1 := by
  funext k
  unfold uUp uAd
  repeat' split
  all_goals omega
theorem uAd_0 (v : Nat → Nat) : uAd v 0 0 0 0 = v := by
  funext k
  unfold uAd
  repeat' split
  all_goals omega
/-- what is not written -/
def uKe (τ τ' : zSt) : Prop := (∀ k, uAy k → τ'.2.2.1 k = τ.2.2.1 k) ∧ τ'.1 126 = τ.1 126 ∧ τ'.1 63 = τ.1 63 ∧ τ'.2.1 64 = τ.2.1 64
theorem uKe.rf (τ : zSt) : uKe τ τ := ⟨fun _ _ => rfl, rfl, rfl, rfl⟩
theorem uKe.tr {a b c : zSt} (h : uKe a b) (g : uKe b c) : uKe a c := ⟨fun k hk => (g.1 k hk).trans (h.1 k hk), g.2.1.trans h.2.1, g.2.2.1.trans h.2.2.1, g.2.2.2.trans h.2.2.2⟩
end UTY
