/-! weakenAll(): atoms, truths, and what is left -/
/-- truths by their numbers -/
theorem ti_ex {L : List Nat} {φ : Nat → Nat} {R : Nat → Int32} (hφ : ∀ u v, u ∈ L → v ∈ L → φ u = φ v → u = v) (hR : ∀ u, u ∈ L → rTo R L u) (hl : L.length < 2 ^ 31) : ∃ ti : Nat → Nat, (∀ u, u ∈ L → ti (φ u) = nuO R u) ∧ ∀ x y, ti x = ti y → x = y := by
  have nu : ∀ u, u ∈ L → nuO R u < L.length ∧ L[nuO R u]? = some u := fun u hu => by
    obtain ⟨n, h1, h2⟩ := hR u hu
    have hn : n < L.length := Nat.lt_of_not_le (fun z => by rw [List.getElem?_eq_none z] at h2; cases h2)
    have e : nuO R u = n := by
      unfold nuO
      rw [h1, nI_clamp (by omega)]
    rw [e]
    exact ⟨hn, h2⟩
  refine ⟨fun x => @dite _ (∃ u, u ∈ L ∧ φ u = x) (Classical.propDecidable _) (fun h => nuO R (Classical.choose h)) (fun _ => L.length + x), fun u hu => ?_, fun x y e => ?_⟩
  · have hx : ∃ v, v ∈ L ∧ φ v = φ u := ⟨u, hu, rfl⟩
    refine (@dif_pos _ (Classical.propDecidable _) hx _ _ _).trans ?_
    rw [hφ _ _ (Classical.choose_spec hx).1 hu (Classical.choose_spec hx).2]
  · have e : @dite _ (∃ u, u ∈ L ∧ φ u = x) (Classical.propDecidable _) (fun h => nuO R (Classical.choose h)) (fun _ => L.length + x) = @dite _ (∃ u, u ∈ L ∧ φ u = y) (Classical.propDecidable _) (fun h => nuO R (Classical.choose h)) (fun _ => L.length + y) := e
    by_cases cx : ∃ u, u ∈ L ∧ φ u = x
    · have sx := Classical.choose_spec cx
      rw [dif_pos cx] at e
      by_cases cy : ∃ u, u ∈ L ∧ φ u = y
      · have sy := Classical.choose_spec cy
        rw [dif_pos cy] at e
        have h1 := (nu _ sx.1).2
        have h2 := (nu _ sy.1).2
        rw [e, h2] at h1
        injection h1 with h1
        rw [← sx.2, ← sy.2, h1]
      · rw [dif_neg cy] at e
        have := (nu _ sx.1).1
        omega
    · rw [dif_neg cx] at e
      by_cases cy : ∃ u, u ∈ L ∧ φ u = y
      · have sy := Classical.choose_spec cy
        rw [dif_pos cy] at e
        have := (nu _ sy.1).1
        omega
      · rw [dif_neg cy] at e
        omega
/-- what a condition weighs, by its node; and as it is read -/
noncomputable def atM (V : oSt) (sl ti : Nat → Nat) (m : Nat) : Nat := @ite _ (jNw V m) (Classical.propDecidable _) 0 (mnV V sl ti m).1
def cdW : gCd → Nat
  | .inl y => tAt y.1
  | .inr _ => 0
theorem vJ.nw {lo : Nat} {V σ : oSt} {m : Nat} (h : vJ lo V σ) (hm : lo ≤ m) (w : jNw V m) : jNw σ m := by
  obtain ⟨fs, r, h1, h2, h3, h4⟩ := w
  obtain ⟨gs, g1, g3⟩ := h.nx hm h1
  exact ⟨gs, r, g1, (g3 0 (by decide) (by decide)).trans h2, (g3 5 (by decide) (by decide)).trans h3, h4⟩
section ATM
variable {κ : oKv} {lo : Nat} {V σ : oSt} {sl ti : Nat → Nat} {X : Nat → Prop} {pa ph ta th c H m : Nat} {rd : Int32} {Bb : Int} {x : gCd}
/-- **a condition of a Scope, with its weight** -/
theorem cd_z (hM : vJ lo V σ) (hm : lo ≤ m) (ha : (mnV V sl ti m).1 = cdA x) (hj : jMn X κ σ pa ph ta th rd sl ti c Bb (fun m => (mnV V sl ti m).2) H (cdA x) m) (hn : jNw V m → cdA x = 1) : jMz X κ σ pa ph ta th rd sl ti c Bb (fun m => (mnV V sl ti m).2) H (atM V sl ti m) m := by
  unfold atM
  by_cases w : jNw V m
  · rw [if_pos w]
    exact Or.inr ⟨rfl, by rw [← hn w]; exact hj, hM.nw hm w⟩
  · rw [if_neg w, ha]
    exact Or.inl hj
theorem at_le (ha : (mnV V sl ti m).1 = cdA x) (hn : ∀ u, x = .inr u → jNw V m) : atM V sl ti m ≤ cdW x := by
  unfold atM
  by_cases w : jNw V m
  · rw [if_pos w]; exact Nat.zero_le _
  · rw [if_neg w, ha]
    cases x with
    | inl y => exact Nat.le_refl _
    | inr u => exact absurd (hn u rfl) w
end ATM
section WKS
variable {st : Nat} {l : Nat → Nat} {b0 : Nat} {Q : Nat → Prop} {σG σ σ' : oSt} {Fc : Nat → Nat → Bool} {pa ph ta th w ra sa : Nat}
theorem fQz_k {α : Type} (P : α → Prop) (p q : Nat → Bool) : ∀ (k : Nat) (l : List α), (∀ i x, l[i]? = some x → (q (k + i) = true ↔ p (k + i) = true ∧ P x)) → fQz P (fQk p k l) = fQk q k l
  | _, [], _ => rfl
  | k, x :: l, h => by
    have I := fQz_k P p q (k + 1) l (fun i y hy => by
      have := h (i + 1) y hy
      rw [(by omega : k + (i + 1) = k + 1 + i)] at this
      exact this)
    have h0 := h 0 x rfl
    rw [Nat.add_zero] at h0
    show fQz P (if p k = true then x :: fQk p (k + 1) l else fQk p (k + 1) l) = (if q k = true then x :: fQk q (k + 1) l else fQk q (k + 1) l)
    by_cases c : p k = true
    · rw [if_pos c]
      unfold fQz at I ⊢
      rw [List.filter_cons]
      by_cases d : P x
      · rw [if_pos (@decide_eq_true _ (Classical.propDecidable _) d), if_pos (h0.mpr ⟨c, d⟩), I]
      · rw [if_neg (fun z => d (@of_decide_eq_true _ (Classical.propDecidable _) z)), if_neg (fun z => d (h0.mp z).2), I]
    · rw [if_neg c, if_neg (fun z => c (h0.mp z).1), I]
/-- **what is left, when one Known lost some** -/
theorem wkD.go (hJ : pa < b0 ∧ ph < b0 ∧ ta < b0 ∧ th < b0) (hw : wFr Q pa ph ta th σG σ) (hr : rwI 0 σG) (h : wkD st l b0 Q σG σ Fc) (k : jKx (fun x => x = w ∨ x = ra ∨ x = sa) pa ph ta th σ σ') {F0 : List kFc} (h0 : kOq st l b0 Q σG w F0) (hne : F0 ≠ []) (hR : kRw (b0, Q) ra sa σ) (hR' : kRw (b0, Q) ra sa σ') (hf : ∃ fs, σG.1 w = some (.inr (4, fs)) ∧ fs[5]? = some (.ref ra) ∧ fs[6]? = some (.ref sa)) {p : Nat → Bool} (hO : ∀ F, kOq st l b0 Q σG w F → kOr (b0, Q) σ' w ra sa (fQk p 0 F)) : wkD st l b0 Q σG σ' (fun x i => if x = w then p i else Fc x i) := fun w' F hF => by
  by_cases c : w' = w
  · subst c
    refine ⟨ra, sa, ?_, fun _ => ⟨hR', hf⟩⟩
    have e : (fun x i => if x = w' then p i else Fc x i) w' = p := funext fun i => if_pos rfl
    rw [e]
    exact hO F hF
  · have e : (fun x i => if x = w then p i else Fc x i) w' = Fc w' := funext fun i => if_neg c
    obtain ⟨ra', sa', g1, g2⟩ := h w' F hF
    obtain ⟨fw, f1, f5, f6⟩ := hf
    obtain ⟨⟨⟨y, r1⟩, ⟨z, r2⟩⟩, r3, r4⟩ := hR
    obtain ⟨fs', cp', hr', gs', c1, -⟩ := id g1
    have nX : ¬ (w' = w ∨ w' = ra ∨ w' = sa) := by
      rintro (q | q | q)
      · exact c q
      · rw [q, r1] at c1; cases c1
      · rw [q, r2] at c1; cases c1
    have rows : F ≠ [] → ¬ (ra' = w ∨ ra' = ra ∨ ra' = sa) ∧ ¬ (sa' = w ∨ sa' = ra ∨ sa' = sa) := fun q => by
      obtain ⟨⟨⟨⟨y', r1'⟩, ⟨z', r2'⟩⟩, -⟩, fs, d1, d5, d6⟩ := g2 q
      obtain ⟨fs2, w1, -⟩ := hw.2.1 w fw f1
      refine ⟨?_, ?_⟩
      · rintro (q | q | q)
        · rw [q, w1] at r1'; cases r1'
        · exact c (hr.2.2.2 w' w fs fw 5 ra (Nat.zero_le _) (Nat.zero_le _) d1 f1 (Or.inl rfl) (by rw [d5, q]) f5)
        · rw [q, r2] at r1'
          injection r1' with r1'; injection r1' with r1'; injection r1' with r1' _
          cases r1'
      · rintro (q | q | q)
        · rw [q, w1] at r2'; cases r2'
        · rw [q, r1] at r2'
          injection r2' with r2'; injection r2' with r2'; injection r2' with r2' _
          cases r2'
        · exact c (hr.2.2.2 w' w fs fw 6 sa (Nat.zero_le _) (Nat.zero_le _) d1 f1 (Or.inr rfl) (by rw [d6, q]) f6)
    have hX : ∀ x y, σ.1 x = some (.inl y) → (y.1 = .int ∨ y.1 = .object "LiquidTongue$Sum") → (x = w ∨ x = ra ∨ x = sa) → Q x := fun x y e _ hx => by
      rcases hx with q | q | q
      · obtain ⟨fs2, w1, -⟩ := hw.2.1 w fw f1
        rw [q, w1] at e; cases e
      · rw [q]; exact r3.1
      · rw [q]; exact r3.2
    refine ⟨ra', sa', ?_, fun q => ⟨?_, (g2 q).2⟩⟩
    · rw [e]
      refine g1.kx hJ k hX nX (fun q => rows (fun z => q ?_))
      rw [z]; rfl
    · obtain ⟨⟨⟨⟨y', r1'⟩, ⟨z', r2'⟩⟩, s3, s4, s5⟩, -⟩ := g2 q
      obtain ⟨n1, n2⟩ := rows q
      have s4 : b0 ≤ ra' := s4
      have s5 : b0 ≤ sa' := s5
      refine ⟨⟨⟨y', k.1 _ _ r1' ⟨fun e => (by cases e), by omega, by omega, by omega, by omega⟩ (fun f z => by cases z) (fun f z => by cases z) (fun _ _ _ => n1)⟩, z', k.1 _ _ r2' ⟨fun e => (by cases e), by omega, by omega, by omega, by omega⟩ (fun f z => by cases z) (fun f z => by cases z) (fun _ _ _ => n2)⟩, s3, s4, s5⟩
end WKS
