/-! as many INSTANCES as can be: the greatest set that FITS -/
abbrev gAl : Type := Nat × List Bool → Nat → Bool
theorem exL.anti {K K' : oKt} (h : ∀ L L' ts, (∀ l, l ∈ L → l ∈ L') → K L' ts → K' L ts) : ∀ (Bs : List (List oBr)) (L L' : List oLm) (ts : List (Nat × Bool)), (∀ l, l ∈ L → l ∈ L') → exL Bs K L' ts → exL Bs K' L ts
  | [], L, L', ts, hl, w => h L L' ts hl w
  | B :: Bs, L, L', ts, hl, ⟨b, hb, w⟩ => ⟨b, hb, exL.anti h Bs _ _ _ (fun l z => by
      rcases List.mem_append.mp z with z | z
      · exact List.mem_append_left _ z
      · exact List.mem_append_right _ (hl l z)) w⟩
theorem kFe.anti {Q Q' : List oLm → Prop} (hQ : ∀ L L', (∀ l, l ∈ L → l ∈ L') → Q L' → Q' L) : ∀ L L' ts, (∀ l, l ∈ L → l ∈ L') → kFe Q L' ts → kFe Q' L ts := fun L L' _ hl w => ⟨xOk.mono hl w.1, w.2.1, hQ L L' hl w.2.2⟩
/-- fewer are left -/
def fLe (FK : Nat × List Bool → List gFc) (al al' : gAl) : Prop := ∀ kp k, k < (FK kp).length → al kp k = true → al' kp k = true
/-- the INSTANCES of a type's place are FK's -/
def tyK (nq : tQ → Int) (xs : List tQ) (FK : Nat × List Bool → List gFc) (X : gTy) : Prop := ∀ m, X.1 = .inr m → gIn nq xs m.2.2.1 m.2.2.2.2 = FK (m.1, m.2.1)
def scK (nq : tQ → Int) (xs : List tQ) (FK : Nat × List Bool → List gFc) (sc : List gEn) : Prop := ∀ x, x ∈ scN sc → tyK nq xs FK x.2
theorem fQk_mem {α : Type} {p q : Nat → Bool} : ∀ (l : List α) (k : Nat) (x : α), (∀ i, k ≤ i → i < k + l.length → p i = true → q i = true) → x ∈ fQk p k l → x ∈ fQk q k l
  | [], _, _, _, h => h
  | y :: l, k, x, hp, h => by
    have I := fQk_mem l (k + 1) x (fun i h1 h2 => hp i (by omega) (by show i < k + (l.length + 1); omega))
    unfold fQk at h ⊢
    by_cases c : p k = true
    · rw [if_pos c] at h
      rw [if_pos (hp k (Nat.le_refl _) (by show k < k + (l.length + 1); omega) c)]
      rcases List.mem_cons.mp h with e | h
      · rw [e]; exact List.mem_cons_self ..
      · exact List.mem_cons_of_mem _ (I h)
    · rw [if_neg c] at h
      split
      · exact List.mem_cons_of_mem _ (I h)
      · exact I h
section GRT
variable {nq : tQ → Int} {xs : List tQ} {FK : Nat × List Bool → List gFc} {al al' : gAl}
theorem gSa_mo {X : gTy} (h : fLe FK al al') (hK : tyK nq xs FK X) : ∀ x, x ∈ gSa al nq xs X → x ∈ gSa al' nq xs X := fun x hx => by
  rcases X with ⟨y | m, G⟩
  · exact hx
  · have e := hK m rfl
    have hx : x ∈ fQk (al (m.1, m.2.1)) 0 (gIn nq xs m.2.2.1 m.2.2.2.2) := hx
    show x ∈ fQk (al' (m.1, m.2.1)) 0 (gIn nq xs m.2.2.1 m.2.2.2.2)
    refine fQk_mem _ 0 x (fun i _ hi => h (m.1, m.2.1) i ?_) hx
    rw [← e]
    omega
theorem gLm_mo {X : gTy} {sl : gN → Nat} {s : Nat} (h : fLe FK al al') (hK : tyK nq xs FK X) : ∀ l, l ∈ gLm al nq xs sl s X → l ∈ gLm al' nq xs sl s X := fun l hl => by
  obtain ⟨x, hx, hl⟩ := List.mem_flatMap.mp hl
  exact List.mem_flatMap.mpr ⟨x, gSa_mo h hK x hx, hl⟩
theorem qLm_mo {Γ : uGm} {R : Nat → Int32} {sc : List gEn} {lf : Option gTy} (h : fLe FK al al') (hS : scK Γ.2.2.1 Γ.2.2.2.1 FK sc) (hl : ∀ X, lf = some X → tyK Γ.2.2.1 Γ.2.2.2.1 FK X) : ∀ l, l ∈ qLm al Γ R sc lf → l ∈ qLm al' Γ R sc lf := fun l w => by
  unfold qLm at w ⊢
  rcases List.mem_append.mp w with w | w
  · obtain ⟨x, hx, w⟩ := List.mem_flatMap.mp w
    exact List.mem_append_left _ (List.mem_flatMap.mpr ⟨x, hx, gLm_mo h (hS x hx) l w⟩)
  · refine List.mem_append_right _ ?_
    rcases List.mem_append.mp w with w | w
    · refine List.mem_append_left _ ?_
      cases lf with
      | none => exact w
      | some X =>
        rcases List.mem_append.mp w with w | w
        · exact List.mem_append_left _ (gLm_mo h (hl X rfl) l w)
        · exact List.mem_append_right _ w
    · exact List.mem_append_right _ w
theorem gQB_mo {sl : gN → Nat} {G : List (gN × gTe)} {x : gFc} {L L' : List oLm} (h : ∀ l, l ∈ L → l ∈ L') (w : gQB sl G x L) : gQB sl G x L' := fun l hl => xDv.mono h _ _ _ (w l hl)
/-- with fewer left, fewer follow -/
theorem qNo_mo {T : Nat} {f pp ee R R6 : Nat → Int32} {Γ : uGm} {sc : List gEn} {X : gTy} {G : List (gN × gTe)} {x : gFc} (h : fLe FK al al') (hS : scK Γ.2.2.1 Γ.2.2.2.1 FK sc) (hX : tyK Γ.2.2.1 Γ.2.2.2.1 FK X) (w : qNo T f pp ee R R6 al' Γ sc X G x) : qNo T f pp ee R R6 al Γ sc X G x :=
  exL.anti (kFe.anti (fun _ _ hl z q => z (gQB_mo hl q))) _ _ _ _ (qLm_mo h hS (fun X' e => by injection e with e; rw [← e]; exact hX)) w
/-- all that must FIT does -/
def gSb (T : Nat) (f pp ee R R6 : Nat → Int32) (Γ : uGm) (Fs : List gFit) (al : gAl) : Prop := ∀ x, x ∈ Fs → ∀ m, x.2.2.1 = .inr m → ∀ k y, (gIn Γ.2.2.1 Γ.2.2.2.1 m.2.2.1 m.2.2.2.2)[k]? = some y → al (m.1, m.2.1) k = true → ¬ qNo T f pp ee R R6 al Γ x.1 x.2.1 x.2.2.2 y
/-- **the greatest set that FITS** -/
def gGr (T : Nat) (f pp ee R R6 : Nat → Int32) (Γ : uGm) (FK : Nat × List Bool → List gFc) (Fs : List gFit) (al : gAl) : Prop := gSb T f pp ee R R6 Γ Fs al ∧ ∀ al', gSb T f pp ee R R6 Γ Fs al' → fLe FK al' al
theorem gGr.uq {T : Nat} {f pp ee R R6 : Nat → Int32} {Γ : uGm} {Fs : List gFit} (h : gGr T f pp ee R R6 Γ FK Fs al) (h' : gGr T f pp ee R R6 Γ FK Fs al') : fLe FK al al' ∧ fLe FK al' al := ⟨h'.2 al h.1, h.2 al' h'.1⟩
end GRT
/-- how many are left -/
def cn65 (R : Nat → Int32) : Nat := (List.range 8000).countP (fun j => decide (¬ R j = 0))
theorem countP_lt {p q : Nat → Bool} : ∀ (l : List Nat), (∀ j, j ∈ l → p j = true → q j = true) → l.countP p ≤ l.countP q ∧ ((∃ j, j ∈ l ∧ q j = true ∧ p j = false) → l.countP p < l.countP q)
  | [], _ => ⟨Nat.le_refl _, fun ⟨j, h, _⟩ => by cases h⟩
  | x :: l, h => by
    obtain ⟨I1, I2⟩ := countP_lt l (fun j hj => h j (List.mem_cons_of_mem _ hj))
    have hx := h x (List.mem_cons_self ..)
    rw [List.countP_cons, List.countP_cons]
    cases ep : p x with
    | true =>
      rw [hx ep]
      refine ⟨by omega, fun ⟨j, hj, h1, h2⟩ => ?_⟩
      rcases List.mem_cons.mp hj with e | hj
      · rw [e, ep] at h2; cases h2
      · have := I2 ⟨j, hj, h1, h2⟩
        omega
    | false =>
      cases eq : q x with
      | true => exact ⟨by simp only [if_true, Bool.false_eq_true, if_false]; omega, fun _ => by simp only [if_true, Bool.false_eq_true, if_false]; omega⟩
      | false =>
        refine ⟨by omega, fun ⟨j, hj, h1, h2⟩ => ?_⟩
        rcases List.mem_cons.mp hj with e | hj
        · rw [e, eq] at h1; cases h1
        · have := I2 ⟨j, hj, h1, h2⟩
          omega
theorem cn65_le {R R' : Nat → Int32} (h : ∀ j, ¬ R' j = 0 → ¬ R j = 0) : cn65 R' ≤ cn65 R ∧ ((∃ j, j < 8000 ∧ ¬ R j = 0 ∧ R' j = 0) → cn65 R' < cn65 R) := by
  obtain ⟨a, b⟩ := countP_lt (p := fun j => decide (¬ R' j = 0)) (q := fun j => decide (¬ R j = 0)) (List.range 8000) (fun j _ hj => decide_eq_true (h j (of_decide_eq_true hj)))
  exact ⟨a, fun ⟨j, h1, h2, h3⟩ => b ⟨j, List.mem_range.mpr h1, decide_eq_true h2, decide_eq_false (fun z => z h3)⟩⟩
theorem cn65_b (R : Nat → Int32) : cn65 R ≤ 8000 := by
  have := List.countP_le_length (p := fun j => decide (¬ R j = 0)) (l := List.range 8000)
  rw [List.length_range] at this
  exact this
