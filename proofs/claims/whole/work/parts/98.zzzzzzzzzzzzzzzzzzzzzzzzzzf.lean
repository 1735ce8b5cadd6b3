/-! weakenAll(): losing INSTANCES step by step, with no state -/
/-- the places whose INSTANCES a question depends on -/
def rlK (x : gFit) (kp : Nat × List Bool) : Prop := (∃ m : gTm, x.2.1.1 = .inr m ∧ kp = (m.1, m.2.1)) ∨ ∃ (y : gN) (A : gTy) (m : gTm), (y, A) ∈ scN x.1 ∧ A.1 = .inr m ∧ kp = (m.1, m.2.1)
/-- what FITS: no INSTANCE that is left is not said -/
def wyS (T : Nat) (f pp ee R R6 : Nat → Int32) (Γ : uGm) (cell : Nat × List Bool → Nat) (Fc : Nat → Nat → Bool) (x : gFit) : Prop := ∀ m : gTm, x.2.2.1 = .inr m → ∀ (k : Nat) (y : gFc), (gIn Γ.2.2.1 Γ.2.2.2.1 m.2.2.1 m.2.2.2.2)[k]? = some y → Fc (cell (m.1, m.2.1)) k = true → ¬ qNo T f pp ee R R6 (fun kp => Fc (cell kp)) Γ x.1 x.2.1 x.2.2.2 y
/-- how many INSTANCES are left -/
def wyN (FK : Nat × List Bool → List gFc) (cell : Nat × List Bool → Nat) (Fc : Nat → Nat → Bool) : List (Nat × List Bool) → Nat
  | [] => 0
  | kp :: r => ((List.range (FK kp).length).filter (Fc (cell kp))).length + wyN FK cell Fc r
section WYA
variable {T : Nat} {f pp ee R R6 : Nat → Int32} {Γ : uGm} {FK : Nat × List Bool → List gFc} {cell : Nat × List Bool → Nat} {Fc Fc' : Nat → Nat → Bool} {al al' : gAl} {x : gFit} {y : gFc} {G : List (gN × gTe)}
theorem qNo_lc (h : ∀ kp, rlK x kp → ∀ k, k < (FK kp).length → al kp k = true → al' kp k = true) (hS : scK Γ.2.2.1 Γ.2.2.2.1 FK x.1) (hX : tyK Γ.2.2.1 Γ.2.2.2.1 FK x.2.1) (w : qNo T f pp ee R R6 al' Γ x.1 x.2.1 G y) : qNo T f pp ee R R6 al Γ x.1 x.2.1 G y :=
  qNo_mo (FK := fun kp => @ite _ (rlK x kp) (Classical.propDecidable _) (FK kp) []) (fun kp k hk e => by
    have hk : k < (@ite _ (rlK x kp) (Classical.propDecidable _) (FK kp) []).length := hk
    by_cases c : rlK x kp
    · rw [if_pos c] at hk
      exact h kp c k hk e
    · rw [if_neg c] at hk
      exact absurd hk (Nat.not_lt_zero _)) (fun p hp m e => by
    obtain ⟨y, A⟩ := p
    have e : A.1 = .inr m := e
    have c : rlK x (m.1, m.2.1) := Or.inr ⟨y, A, m, hp, e, rfl⟩
    show _ = @ite _ (rlK x (m.1, m.2.1)) (Classical.propDecidable _) (FK (m.1, m.2.1)) []
    rw [if_pos c]
    exact hS (y, A) hp m e) (fun m e => by
    have c : rlK x (m.1, m.2.1) := Or.inl ⟨m, e, rfl⟩
    show _ = @ite _ (rlK x (m.1, m.2.1)) (Classical.propDecidable _) (FK (m.1, m.2.1)) []
    rw [if_pos c]
    exact hX m e) w
theorem wyS.go (h : wyS T f pp ee R R6 Γ cell Fc x) (hle : ∀ w i, Fc' w i = true → Fc w i = true) (hrl : ∀ kp, rlK x kp → ∀ k, Fc (cell kp) k = true → Fc' (cell kp) k = true) (hS : scK Γ.2.2.1 Γ.2.2.2.1 FK x.1) (hX : tyK Γ.2.2.1 Γ.2.2.2.1 FK x.2.1) : wyS T f pp ee R R6 Γ cell Fc' x := fun m e k y hy hk q => h m e k y hy (hle _ _ hk) (qNo_lc (al := fun kp => Fc (cell kp)) (fun kp c k _ z => hrl kp c k z) hS hX q)
theorem wyS.me (hse : ∀ m : gTm, x.2.2.1 = .inr m → ∀ (k : Nat) (y : gFc), (gIn Γ.2.2.1 Γ.2.2.2.1 m.2.2.1 m.2.2.2.2)[k]? = some y → Fc' (cell (m.1, m.2.1)) k = true → ¬ qNo T f pp ee R R6 (fun kp => Fc (cell kp)) Γ x.1 x.2.1 x.2.2.2 y) (hrl : ∀ kp, rlK x kp → ∀ k, Fc (cell kp) k = true → Fc' (cell kp) k = true) (hS : scK Γ.2.2.1 Γ.2.2.2.1 FK x.1) (hX : tyK Γ.2.2.1 Γ.2.2.2.1 FK x.2.1) : wyS T f pp ee R R6 Γ cell Fc' x := fun m e k y hy hk q => hse m e k y hy hk (qNo_lc (al := fun kp => Fc (cell kp)) (fun kp c k _ z => hrl kp c k z) hS hX q)
/-- the greatest set loses nothing -/
theorem wy_gr {m : gTm} (hm : x.2.2.1 = .inr m) (hinj : ∀ kp kp', FK kp ≠ [] → FK kp' ≠ [] → cell kp = cell kp' → kp = kp') (hne : gIn Γ.2.2.1 Γ.2.2.2.1 m.2.2.1 m.2.2.2.2 ≠ []) (hS : scK Γ.2.2.1 Γ.2.2.2.1 FK x.1) (hX : tyK Γ.2.2.1 Γ.2.2.2.1 FK x.2.1) (hR : tyK Γ.2.2.1 Γ.2.2.2.1 FK x.2.2) (h1 : ∀ w i, w ≠ cell (m.1, m.2.1) → Fc' w i = Fc w i) (h2 : ∀ w i, Fc w i = true → Fc' w i ≠ true → ∃ y, (gIn Γ.2.2.1 Γ.2.2.2.1 m.2.2.1 m.2.2.2.2)[i]? = some y ∧ qNo T f pp ee R R6 (fun kp => Fc (cell kp)) Γ x.1 x.2.1 x.2.2.2 y) {Fs : List gFit} (hx : x ∈ Fs) (hg : gSb T f pp ee R R6 Γ Fs al) (hl : fLe FK al (fun kp => Fc (cell kp))) : fLe FK al (fun kp => Fc' (cell kp)) := fun kp k hk e => by
  have e0 : Fc (cell kp) k = true := hl kp k hk e
  show Fc' (cell kp) k = true
  refine Classical.byContradiction (fun z => ?_)
  have ec : cell kp = cell (m.1, m.2.1) := Classical.byContradiction (fun c => z (by rw [h1 _ _ c]; exact e0))
  have em := hR m hm
  have ek := hinj kp (m.1, m.2.1) (fun q => by rw [q] at hk; exact absurd hk (Nat.not_lt_zero _)) (by rw [← em]; exact hne) ec
  obtain ⟨y, y1, y2⟩ := h2 (cell kp) k e0 z
  rw [ek] at e
  exact hg x hx m hm k y y1 e (qNo_mo hl hS hX y2)
theorem wfl_le {p q : Nat → Bool} (h : ∀ k, q k = true → p k = true) : ∀ l : List Nat, (l.filter q).length ≤ (l.filter p).length
  | [] => Nat.le_refl _
  | k :: l => by
    have I := wfl_le h l
    by_cases c : q k = true
    · rw [List.filter_cons_of_pos c, List.filter_cons_of_pos (h k c)]
      show _ + 1 ≤ _ + 1
      omega
    · rw [List.filter_cons_of_neg c]
      by_cases d : p k = true
      · rw [List.filter_cons_of_pos d]
        show _ ≤ _ + 1
        omega
      · rw [List.filter_cons_of_neg d]; exact I
theorem wfl_lt {p q : Nat → Bool} (h : ∀ k, q k = true → p k = true) {z : Nat} (hp : p z = true) (hq : q z ≠ true) : ∀ l : List Nat, z ∈ l → (l.filter q).length < (l.filter p).length
  | [], hz => by cases hz
  | k :: l, hz => by
    have L := wfl_le h l
    rcases List.mem_cons.mp hz with e | e
    · rw [← e, List.filter_cons_of_pos hp, List.filter_cons_of_neg hq]
      show _ < _ + 1
      omega
    · have I := wfl_lt h hp hq l e
      by_cases c : q k = true
      · rw [List.filter_cons_of_pos c, List.filter_cons_of_pos (h k c)]
        show _ + 1 < _ + 1
        omega
      · rw [List.filter_cons_of_neg c]
        by_cases d : p k = true
        · rw [List.filter_cons_of_pos d]
          show _ < _ + 1
          omega
        · rw [List.filter_cons_of_neg d]; exact I
theorem wyN_le (h : ∀ w i, Fc' w i = true → Fc w i = true) : ∀ Ks, wyN FK cell Fc' Ks ≤ wyN FK cell Fc Ks
  | [] => Nat.le_refl _
  | kp :: r => Nat.add_le_add (wfl_le (fun k => h _ k) _) (wyN_le h r)
theorem wyN_lt (h : ∀ w i, Fc' w i = true → Fc w i = true) {kp : Nat × List Bool} {k : Nat} (hk : k < (FK kp).length) (hp : Fc (cell kp) k = true) (hq : Fc' (cell kp) k ≠ true) : ∀ Ks, kp ∈ Ks → wyN FK cell Fc' Ks < wyN FK cell Fc Ks
  | [], hz => by cases hz
  | k' :: r, hz => by
    have L := wyN_le (FK := FK) (cell := cell) h r
    have L' := wfl_le (fun k => h (cell k') k) (List.range (FK k').length)
    rcases List.mem_cons.mp hz with e | e
    · have := wfl_lt (fun k => h (cell k') k) (z := k) (by rw [← e]; exact hp) (by rw [← e]; exact hq) (List.range (FK k').length) (List.mem_range.mpr (by rw [← e]; exact hk))
      show _ + _ < _ + _
      omega
    · have := wyN_lt h hk hp hq r e
      show _ + _ < _ + _
      omega
end WYA
