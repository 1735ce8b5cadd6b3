/-! weakenAll(): what a type says now, to the class and to the reading -/
section KSG
variable {E : gN → Nat → Prop} {t : gTe} {u : kTe} {sl : Nat → Nat} {sl' : gN → Nat}
theorem teR.ks (h : teR E t u) (hE : ∀ y a, E y a → sl a = sl' y) : kSl sl u = gKt sl' t := by
  obtain ⟨h1, h2⟩ := h
  unfold kSl gKt
  rcases h2 with ⟨h2, h3⟩ | ⟨y, a, e, h2, h3, h4⟩
  · rw [h2, h3, h1]; rfl
  · rw [h2, h3, h1]
    show (some (sl a, e), _) = (some (sl' y, e), _)
    rw [hE y a h4]
theorem fQk_map {α β : Type} (F : α → β) (p : Nat → Bool) : ∀ (k : Nat) (l : List α), fQk p k (l.map F) = (fQk p k l).map F
  | _, [] => rfl
  | k, x :: l => by
    show (if p k = true then F x :: fQk p (k + 1) (l.map F) else fQk p (k + 1) (l.map F)) = (if p k = true then x :: fQk p (k + 1) l else fQk p (k + 1) l).map F
    rw [fQk_map F p (k + 1) l]
    split <;> rfl
theorem fQk_all {α : Type} {p : Nat → Bool} : ∀ (k : Nat) (l : List α), (∀ i, p i = true) → fQk p k l = l
  | _, [], _ => rfl
  | k, x :: l, h => by
    show (if p k = true then x :: fQk p (k + 1) l else fQk p (k + 1) l) = _
    rw [if_pos (h k), fQk_all (k + 1) l h]
theorem fQk_sub {α : Type} {p : Nat → Bool} : ∀ (k : Nat) (l : List α) (x : α), x ∈ fQk p k l → x ∈ l
  | _, [], _, h => by cases h
  | k, y :: l, x, h => by
    have h : x ∈ (if p k = true then y :: fQk p (k + 1) l else fQk p (k + 1) l) := h
    split at h
    · rcases List.mem_cons.mp h with z | z
      · rw [z]; exact List.mem_cons_self ..
      · exact List.mem_cons_of_mem _ (fQk_sub (k + 1) l x z)
    · exact List.mem_cons_of_mem _ (fQk_sub (k + 1) l x h)
end KSG
/-- a NAME's base, and what is known of it -/
def bsG (σ : oSt) (a : Nat) : Int32 := (ovi (ofd σ (some a) 6 3)).getD 0
def knG (σ : oSt) (a : Nat) : Nat := ((ovr (ofd σ (some a) 6 4)).getD none).getD 0
section SCP
variable {st : Nat} {l : Nat → Nat} {b0 : Nat} {nq : tQ → Int} {xs : List tQ} {Ψ : kGh} {σ : oSt} {CN : Nat → gCd → Prop}
theorem bsG_at {a : Nat} {fs : List Value} {b : Int32} (h : σ.1 a = some (.inr (6, fs))) (h3 : fs[3]? = some (.int b)) : bsG σ a = b := by
  unfold bsG
  rw [ofd_at h, h3]; rfl
theorem knG_at {a : Nat} {fs : List Value} {k : Nat} (h : σ.1 a = some (.inr (6, fs))) (h4 : fs[4]? = some (.ref k)) : knG σ a = k := by
  unfold knG
  rw [ofd_at h, h4]; rfl
/-- **a Scope, as the Judge goes through it** -/
theorem scR.cp : ∀ (Sc : List sEn) (s : Option Nat) (sc : List gEn) (Es : List (gN × Nat)), scR st l b0 nq xs Ψ σ CN Sc s sc Es → cScp (bsG σ) (knG σ) σ Sc s ∧ msL (bsG σ) Sc = Es.map Prod.snd ∧ ((tsL Sc).length = (scC sc).length ∧ ∀ (i m : Nat) (h : Bool), (tsL Sc)[i]? = some (m, h) → ∃ c, (scC sc)[i]? = some (c, h) ∧ CN m c) ∧ (scN sc).length = Es.length ∧ ∀ (i : Nat) (y : gN) (A : gTy), (scN sc)[i]? = some (y, A) → ∃ a, Es[i]? = some (y, a) ∧ kRl st l b0 nq xs Ψ σ (fun y b => (y, b) ∈ Es) (knG σ a) A ∧ (bsG σ a = cKd (yK (gSy A)) ∧ isM (bsG σ a) = true)
  | [], s, sc, Es, h => by
    obtain ⟨h1, rfl, rfl⟩ := h
    exact ⟨h1, rfl, ⟨rfl, fun i m h z => by cases z⟩, rfl, fun i y A z => by cases z⟩
  | .inl a :: r, s, sc, Es, ⟨q, ou, fs, bs, ⟨h1, h2⟩, ⟨h3, h4, h5⟩, h6⟩ => by
    have eb := bsG_at h3 h5
    rcases h6 with ⟨h6, -, h7⟩ | ⟨h6, x, A, k, sc', Es', ⟨rfl, rfl, -⟩, h8, h9, h10, h11⟩
    · obtain ⟨i1, i2, i3, i4, i5⟩ := scR.cp r ou sc Es h7
      refine ⟨⟨q, ou, 0, h1, h2, ⟨fs, h3, h4, by rw [eb]; exact h5, fun z => by rw [eb, h6] at z; cases z⟩, i1⟩, ?_, i3, i4, i5⟩
      show (if isM (bsG σ a) = true then a :: msL (bsG σ) r else msL (bsG σ) r) = _
      rw [eb, h6, if_neg (by decide)]
      exact i2
    · have ek := knG_at h3 h8
      obtain ⟨i1, i2, i3, i4, i5⟩ := scR.cp r ou sc' Es' h11
      refine ⟨⟨q, ou, 0, h1, h2, ⟨fs, h3, h4, by rw [eb]; exact h5, fun _ => by rw [ek]; exact h8⟩, i1⟩, ?_, ?_, ?_, fun i y B e => ?_⟩
      · show (if isM (bsG σ a) = true then a :: msL (bsG σ) r else msL (bsG σ) r) = _
        rw [eb, h6, if_pos rfl, i2]
        rfl
      · exact i3
      · show (scN sc').length + 1 = Es'.length + 1
        rw [i4]
      · cases i with
        | zero =>
          have e : some (x, A) = some (y, B) := e
          injection e with e
          injection e with e1 e2
          subst e1 e2
          exact ⟨a, rfl, by rw [ek]; exact h10.mo (fun _ _ z => List.mem_cons_of_mem _ z), by rw [eb]; exact ⟨h9, h6⟩⟩
        | succ i =>
          obtain ⟨a', e1, e2, e3⟩ := i5 i y B e
          exact ⟨a', e1, e2.mo (fun _ _ z => List.mem_cons_of_mem _ z), e3⟩
  | .inr (m, h) :: r, s, sc, Es, ⟨q, ou, c, sc', ⟨h1, h2⟩, esc, h3, h4⟩ => by
    subst esc
    obtain ⟨i1, i2, ⟨i3, i3'⟩, i4, i5⟩ := scR.cp r ou sc' Es h4
    refine ⟨⟨q, ou, h1, h2, i1⟩, i2, ⟨?_, fun i m' h' e => ?_⟩, i4, i5⟩
    · show (tsL r).length + 1 = (scC sc').length + 1
      rw [i3]
    · cases i with
      | zero =>
        have e : some (m, h) = some (m', h') := e
        injection e with e
        injection e with e1 e2
        subst e1 e2
        exact ⟨c, rfl, h3⟩
      | succ i => exact i3' i m' h' e
/-- a Scope has no more links than there are cells -/
theorem nd_len : ∀ (n : Nat) (L : List Nat), L.Nodup → (∀ x, x ∈ L → x < n) → L.length ≤ n
  | 0, [], _, _ => Nat.le_refl _
  | 0, x :: _, _, h => absurd (h x (List.mem_cons_self ..)) (Nat.not_lt_zero _)
  | n + 1, L, hn, h => by
    have h1 := nd_len n (L.filter (fun x => decide (x ≠ n))) (hn.sublist List.filter_sublist) (fun x hx => by
      obtain ⟨a, b⟩ := List.mem_filter.mp hx
      have := h x a
      have := of_decide_eq_true b
      omega)
    have h2 : L.length ≤ (L.filter (fun x => decide (x ≠ n))).length + 1 := by
      clear h1 h
      induction L with
      | nil => exact Nat.zero_le _
      | cons a L ih =>
        obtain ⟨n1, n2⟩ := List.nodup_cons.mp hn
        by_cases c : a = n
        · have e : L.filter (fun x => decide (x ≠ n)) = L := List.filter_eq_self.mpr (fun x hx => decide_eq_true (fun z => n1 (by rw [c, ← z]; exact hx)))
          rw [List.filter_cons, if_neg (by rw [decide_eq_true_eq]; exact fun z => z c), e]
          exact Nat.le_refl _
        · rw [List.filter_cons, if_pos (decide_eq_true c)]
          have := ih n2
          show L.length + 1 ≤ _ + 1 + 1
          omega
    omega
end SCP
