/-! types: a graph of nodes, and the finite types that solve it -/
abbrev tY : Type := Std.DTreeMap.Internal.Impl Unit (fun _ => Unit)
abbrev yA (a b : tY) : tY := .inner 0 () () a b
abbrev yB (k : Nat) : tY := .inner (k + 1) () () .leaf .leaf
/-- how deep -/
def yH : tY → Nat
  | .leaf => 0
  | .inner _ _ _ a b => max (yH a) (yH b) + 1
theorem yA_inj {a b c d : tY} (h : yA a b = yA c d) : a = c ∧ b = d := by
  injection h with _ _ _ h1 h2
  exact ⟨h1, h2⟩
theorem yA_ne {a b : tY} {k : Nat} (h : yA a b = yB k) : False := by
  injection h with h1 _ _ _ _
  omega
theorem yB_inj {j k : Nat} (h : yB j = yB k) : j = k := by
  injection h with h1 _ _ _ _
  omega
theorem yA_lt (a b : tY) : yH a < yH (yA a b) ∧ yH b < yH (yA a b) := by
  show yH a < max (yH a) (yH b) + 1 ∧ yH b < max (yH a) (yH b) + 1
  omega
def un (f : Nat → Nat) (i v j : Nat) : Nat := if j = i then v else f j
theorem un_at (f : Nat → Nat) (i v : Nat) : un f i v i = v := if_pos rfl
theorem un_ne (f : Nat → Nat) {i j : Nat} (v : Nat) (h : j ≠ i) : un f i v j = f j := if_neg h
/-- how many below n -/
def xN : Nat → (Nat → Bool) → Nat
  | 0, _ => 0
  | n + 1, p => xN n p + (if p n = true then 1 else 0)
theorem xN_cg {n : Nat} {p p' : Nat → Bool} (h : ∀ t, t < n → p t = p' t) : xN n p = xN n p' := by
  induction n with
  | zero => rfl
  | succ n IH =>
    unfold xN
    rw [IH (fun t ht => h t (by omega)), h n (by omega)]
theorem xN_le {n : Nat} {p p' : Nat → Bool} (h : ∀ t, t < n → p t = true → p' t = true) : xN n p ≤ xN n p' := by
  induction n with
  | zero => exact Nat.le_refl _
  | succ n IH =>
    unfold xN
    have := IH (fun t ht => h t (by omega))
    have h2 := h n (by omega)
    by_cases c : p n = true
    · rw [if_pos c, if_pos (h2 c)]; omega
    · rw [if_neg c]; omega
theorem xN_n (n : Nat) (p : Nat → Bool) : xN n p ≤ n := by
  induction n with
  | zero => exact Nat.le_refl _
  | succ n IH =>
    unfold xN
    split <;> omega
theorem xN_off {n : Nat} {p p' : Nat → Bool} {a : Nat} (ha : a < n) (h : ∀ t, t < n → t ≠ a → p t = p' t) (h1 : p a = true) (h2 : p' a = false) : xN n p' + 1 = xN n p := by
  induction n with
  | zero => omega
  | succ n IH =>
    unfold xN
    by_cases c : a = n
    · subst c
      rw [xN_cg (p := p) (p' := p') (fun t ht => h t (by omega) (by omega)), h1, h2]
      rfl
    · have := IH (by omega) (fun t ht => h t (by omega))
      rw [h n (by omega) (fun e => c e.symm)]
      omega
theorem xN_lt {n : Nat} {p p' : Nat → Bool} {a : Nat} (ha : a < n) (h : ∀ t, t < n → p t = true → p' t = true) (h1 : p a = false) (h2 : p' a = true) : xN n p < xN n p' := by
  have e := xN_off (p := p') (p' := fun t => if t = a then false else p' t) ha (fun t _ c => by show p' t = if t = a then false else p' t; rw [if_neg c]) h2 (by show (if a = a then false else p' a) = false; rw [if_pos rfl])
  have l : xN n p ≤ xN n (fun t => if t = a then false else p' t) := xN_le (fun t ht z => by
    show (if t = a then false else p' t) = true
    by_cases c : t = a
    · rw [c, h1] at z; cases z
    · rw [if_neg c]; exact h t ht z)
  omega
/-- kinds (0 free, 1 a function, k + 2 the plain type k), what it takes, what it answers, what it is the same as; how many -/
abbrev gG : Type := (Nat → Nat) × (Nat → Nat) × (Nat → Nat) × (Nat → Nat) × Nat
def gG.K (g : gG) : Nat → Nat := g.1
def gG.L (g : gG) : Nat → Nat := g.2.1
def gG.R (g : gG) : Nat → Nat := g.2.2.1
def gG.S (g : gG) : Nat → Nat := g.2.2.2.1
def gG.n (g : gG) : Nat := g.2.2.2.2
/-- ρ solves it -/
def gS (g : gG) (ρ : Nat → tY) : Prop := ∀ t, t < g.n → ρ t = ρ (g.S t) ∧ (g.K t = 1 → ρ t = yA (ρ (g.L t)) (ρ (g.R t))) ∧ (∀ k, g.K t = k + 2 → ρ t = yB k)
def gRoot (g : gG) (t : Nat) : Bool := decide (g.S t = t)
/-- links lead to an end -/
def gF (g : gG) : Prop := ∃ d : Nat → Nat, ∀ t, t < g.n → g.S t < g.n ∧ (g.S t = t ∨ d (g.S t) < d t) ∧ d t + xN g.n (gRoot g) ≤ g.n
/-- all is in range, and a link is from a free one or to one of the same kind -/
def gK (g : gG) : Prop := gF g ∧ ∀ t, t < g.n → (g.K t = 1 → g.L t < g.n ∧ g.R t < g.n) ∧ (g.S t = t ∨ g.K t = 0 ∨ g.K (g.S t) = g.K t)
def gRt (S : Nat → Nat) : Nat → Nat → Nat
  | 0, t => t
  | k + 1, t => if S t = t then t else gRt S k (S t)
/-- the end of its links -/
def gR (g : gG) (t : Nat) : Nat := gRt g.S g.n t
section GRA
variable {g : gG} {ρ : Nat → tY} {t a b : Nat}
theorem gRt_end {d : Nat → Nat} (h : ∀ t, t < g.n → g.S t < g.n ∧ (g.S t = t ∨ d (g.S t) < d t)) : ∀ (k t : Nat), t < g.n → d t ≤ k → gRt g.S k t < g.n ∧ g.S (gRt g.S k t) = gRt g.S k t ∧ (∀ (P : Nat → Prop), (∀ x, x < g.n → P x → P (g.S x)) → P t → P (gRt g.S k t))
  | 0, t, ht, hd => by
    obtain ⟨h1, h2⟩ := h t ht
    refine ⟨ht, ?_, fun P _ hp => hp⟩
    show g.S t = t
    rcases h2 with e | e
    · exact e
    · omega
  | k + 1, t, ht, hd => by
    obtain ⟨h1, h2⟩ := h t ht
    unfold gRt
    by_cases c : g.S t = t
    · rw [if_pos c]
      exact ⟨ht, c, fun P _ hp => hp⟩
    · rw [if_neg c]
      have e : d (g.S t) < d t := by rcases h2 with e | e; exact absurd e c; exact e
      obtain ⟨i1, i2, i3⟩ := gRt_end h k (g.S t) h1 (by omega)
      exact ⟨i1, i2, fun P hP hp => i3 P hP (hP t ht hp)⟩
theorem gR_end (h : gF g) (ht : t < g.n) : gR g t < g.n ∧ g.S (gR g t) = gR g t ∧ (∀ (P : Nat → Prop), (∀ x, x < g.n → P x → P (g.S x)) → P t → P (gR g t)) := by
  obtain ⟨d, hd⟩ := h
  exact gRt_end (d := d) (fun t ht => ⟨(hd t ht).1, (hd t ht).2.1⟩) g.n t ht (by have := (hd t ht).2.2; omega)
theorem gR_lt (h : gF g) (ht : t < g.n) : gR g t < g.n := (gR_end h ht).1
theorem gR_root (h : gF g) (ht : t < g.n) : g.S (gR g t) = gR g t := (gR_end h ht).2.1
theorem gR_eq (h : gF g) (ht : t < g.n) (hs : gS g ρ) : ρ (gR g t) = ρ t := (gR_end h ht).2.2 (fun x => ρ x = ρ t) (fun x hx e => by rw [← (hs x hx).1]; exact e) rfl
theorem gRt_fix {S : Nat → Nat} (e : S t = t) : ∀ k, gRt S k t = t
  | 0 => rfl
  | k + 1 => by unfold gRt; rw [if_pos e]
theorem gR_fix (e : g.S t = t) : gR g t = t := gRt_fix e g.n
/-- one link further the end is the same -/
theorem gR_S (h : gF g) (ht : t < g.n) : gR g (g.S t) = gR g t := by
  by_cases c : g.S t = t
  · rw [c]
  · obtain ⟨d, hd⟩ := h
    have key : ∀ (k k' x : Nat), x < g.n → d x ≤ k → d x ≤ k' → gRt g.S k x = gRt g.S k' x := fun k => by
      induction k with
      | zero =>
        intro k' x hx h1 h2
        obtain ⟨p1, p2, p3⟩ := hd x hx
        have e : g.S x = x := by rcases p2 with e | e; exact e; omega
        rw [gRt_fix e, gRt_fix e]
      | succ k IH =>
        intro k' x hx h1 h2
        obtain ⟨p1, p2, p3⟩ := hd x hx
        rcases p2 with e | e
        · rw [gRt_fix e, gRt_fix e]
        · obtain ⟨k', rfl⟩ : ∃ k2, k' = k2 + 1 := ⟨k' - 1, by omega⟩
          unfold gRt
          split
          · rfl
          · exact IH k' _ p1 (by omega) (by omega)
    obtain ⟨p1, p2, p3⟩ := hd t ht
    have e : d (g.S t) < d t := by rcases p2 with e | e; exact absurd e c; exact e
    unfold gR
    have hn : ∃ m, g.n = m + 1 := ⟨g.n - 1, by omega⟩
    obtain ⟨m, hm⟩ := hn
    have l1 : gRt g.S g.n t = gRt g.S m (g.S t) := by rw [hm]; show (if g.S t = t then t else gRt g.S m (g.S t)) = _; rw [if_neg c]
    rw [l1]
    exact key _ _ _ p1 (by omega) (by omega)
/-- two nodes have one end -/
def gE (g : gG) (x y : Nat) : Prop := gR g x = gR g y
/-- the kind of the end -/
theorem gR_kind (h : gK g) (ht : t < g.n) : g.K t = 0 ∨ g.K (gR g t) = g.K t := by
  refine (gR_end h.1 ht).2.2 (fun x => g.K t = 0 ∨ g.K x = g.K t) (fun x hx e => ?_) (Or.inr rfl)
  rcases e with e | e
  · exact Or.inl e
  · rcases (h.2 x hx).2 with z | z | z
    · rw [z]; exact Or.inr e
    · exact Or.inl (e.symm.trans z)
    · exact Or.inr (z.trans e)
/-- a link from the end a to b -/
def gLk (g : gG) (a b : Nat) : gG := (g.1, g.2.1, g.2.2.1, fun t => if t = a then b else g.S t, g.n)
theorem gLk_root {x : Nat} (ha : g.S a = a) (hab : a ≠ b) : gRoot (gLk g a b) x = (if x = a then false else gRoot g x) := by
  unfold gRoot
  show decide ((if x = a then b else g.S x) = x) = _
  by_cases c : x = a
  · rw [if_pos c, if_pos c]
    exact decide_eq_false (fun e => hab (by rw [← c]; exact e.symm))
  · rw [if_neg c, if_neg c]
theorem gF.lk (h : gF g) (ha : g.S a = a) (han : a < g.n) (hbn : b < g.n) (hb : g.S b = b) (hab : a ≠ b) : gF (gLk g a b) := by
  obtain ⟨d, hd⟩ := h
  have hc : xN g.n (gRoot (gLk g a b)) + 1 = xN g.n (gRoot g) := xN_off han (fun x _ c => by rw [gLk_root ha hab, if_neg c]) (decide_eq_true ha) (by rw [gLk_root ha hab, if_pos rfl])
  refine ⟨fun x => if (gLk g a b).S x = x then 0 else d x + 1, fun t ht => ?_⟩
  have ht : t < g.n := ht
  obtain ⟨p1, p2, p3⟩ := hd t ht
  have eS : (gLk g a b).S t = if t = a then b else g.S t := rfl
  have en : (gLk g a b).n = g.n := rfl
  have bfix : (gLk g a b).S b = b := by show (if b = a then b else g.S b) = b; rw [if_neg (fun e => hab e.symm)]; exact hb
  rw [en]
  refine ⟨?_, ?_, ?_⟩
  · rw [eS]; split <;> assumption
  · by_cases c : (gLk g a b).S t = t
    · exact Or.inl c
    · refine Or.inr ?_
      show (if (gLk g a b).S ((gLk g a b).S t) = (gLk g a b).S t then 0 else d ((gLk g a b).S t) + 1) < (if (gLk g a b).S t = t then 0 else d t + 1)
      rw [if_neg c]
      split
      · omega
      · rename_i c2
        by_cases c3 : t = a
        · rw [eS, if_pos c3] at c2
          exact absurd bfix c2
        · rw [eS, if_neg c3] at c ⊢
          rcases p2 with e | e
          · exact absurd e c
          · omega
  · show (if (gLk g a b).S t = t then 0 else d t + 1) + _ ≤ _
    have := xN_n g.n (gRoot (gLk g a b))
    split <;> omega
theorem gK.lk (h : gK g) (ha : g.S a = a) (han : a < g.n) (hbn : b < g.n) (hb : g.S b = b) (hab : a ≠ b) (hk : g.K a = 0 ∨ g.K b = g.K a) : gK (gLk g a b) := by
  refine ⟨h.1.lk ha han hbn hb hab, fun t ht => ⟨(h.2 t ht).1, ?_⟩⟩
  show (if t = a then b else g.S t) = t ∨ g.K t = 0 ∨ g.K (if t = a then b else g.S t) = g.K t
  by_cases c : t = a
  · rw [if_pos c, c]
    exact Or.inr hk
  · rw [if_neg c]
    exact (h.2 t ht).2
/-- what solves it with the link -/
theorem gS_lk (ha : g.S a = a) (han : a < g.n) : gS (gLk g a b) ρ ↔ gS g ρ ∧ ρ a = ρ b := by
  refine ⟨fun h => ⟨fun t ht => ?_, ?_⟩, fun h t ht => ?_⟩
  · obtain ⟨h1, h2, h3⟩ := h t ht
    refine ⟨?_, h2, h3⟩
    have h1 : ρ t = ρ (if t = a then b else g.S t) := h1
    by_cases c : t = a
    · rw [c, ha]
    · rw [if_neg c] at h1; exact h1
  · have h1 : ρ a = ρ (if a = a then b else g.S a) := (h a han).1
    rw [if_pos rfl] at h1
    exact h1
  · obtain ⟨h1, h2, h3⟩ := h.1 t ht
    refine ⟨?_, h2, h3⟩
    show ρ t = ρ (if t = a then b else g.S t)
    by_cases c : t = a
    · rw [if_pos c, c]; exact h.2
    · rw [if_neg c]; exact h1
/-- the ends behind a link -/
theorem gR_lk (h : gF g) (ha : g.S a = a) (han : a < g.n) (hbn : b < g.n) (hb : g.S b = b) (hab : a ≠ b) (ht : t < g.n) : gR (gLk g a b) t = if gR g t = a then b else gR g t := by
  have hF := h.lk ha han hbn hb hab
  have bfix : (gLk g a b).S b = b := by show (if b = a then b else g.S b) = b; rw [if_neg (fun e => hab e.symm)]; exact hb
  have afix : (gLk g a b).S a = b := by show (if a = a then b else g.S a) = b; rw [if_pos rfl]
  have key : gR (gLk g a b) (gR g t) = gR (gLk g a b) t := (gR_end h ht).2.2 (fun x => x < g.n ∧ gR (gLk g a b) x = gR (gLk g a b) t) (fun x hx e => by
    obtain ⟨-, e⟩ := e
    have hx' : x < (gLk g a b).n := hx
    by_cases c : x = a
    · have e1 : g.S x = x := by rw [c]; exact ha
      rw [e1]; exact ⟨hx, e⟩
    · have e1 : (gLk g a b).S x = g.S x := by show (if x = a then b else g.S x) = _; rw [if_neg c]
      have e2 := gR_S hF hx'
      rw [e1] at e2
      have h1 : (gLk g a b).S x < g.n := by obtain ⟨d, hd⟩ := hF; exact (hd x hx').1
      rw [e1] at h1
      exact ⟨h1, e2.trans e⟩) ⟨ht, rfl⟩ |>.2
  rw [← key]
  by_cases c : gR g t = a
  · rw [if_pos c, c, ← gR_S hF (show a < (gLk g a b).n from han), afix, gR_fix bfix]
  · rw [if_neg c]
    refine gR_fix ?_
    show (if gR g t = a then b else g.S (gR g t)) = _
    rw [if_neg c]
    exact gR_root h ht
/-- a new node -/
def gNw (g : gG) (k l r : Nat) : gG := (un g.K g.n k, un g.L g.n l, un g.R g.n r, un g.S g.n g.n, g.n + 1)
theorem gF.nw (h : gF g) (k l r : Nat) : gF (gNw g k l r) := by
  obtain ⟨d, hd⟩ := h
  have er : ∀ x, x < g.n → gRoot (gNw g k l r) x = gRoot g x := fun x hx => by
    unfold gRoot
    show decide (un g.S g.n g.n x = x) = _
    rw [un_ne _ _ (by omega)]
  have e1 : xN (gNw g k l r).n (gRoot (gNw g k l r)) = xN g.n (gRoot g) + 1 := by
    show xN g.n (gRoot (gNw g k l r)) + (if gRoot (gNw g k l r) g.n = true then 1 else 0) = _
    rw [xN_cg er, if_pos]
    exact decide_eq_true (show un g.S g.n g.n g.n = g.n from un_at _ _ _)
  refine ⟨un d g.n 0, fun t ht => ?_⟩
  have ht : t < g.n + 1 := ht
  rw [e1]
  show un g.S g.n g.n t < g.n + 1 ∧ (un g.S g.n g.n t = t ∨ un d g.n 0 (un g.S g.n g.n t) < un d g.n 0 t) ∧ un d g.n 0 t + (xN g.n (gRoot g) + 1) ≤ g.n + 1
  by_cases c : t = g.n
  · subst c
    rw [un_at, un_at]
    have := xN_n g.n (gRoot g)
    exact ⟨by omega, Or.inl rfl, by omega⟩
  · obtain ⟨p1, p2, p3⟩ := hd t (by omega)
    rw [un_ne _ _ c, un_ne _ _ c, un_ne _ _ (by omega)]
    exact ⟨by omega, p2, by omega⟩
theorem gK.nw (h : gK g) {k l r : Nat} (hk : k = 1 → l ≤ g.n ∧ r ≤ g.n) : gK (gNw g k l r) := by
  refine ⟨h.1.nw k l r, fun t ht => ?_⟩
  have ht : t < g.n + 1 := ht
  show (un g.K g.n k t = 1 → un g.L g.n l t < g.n + 1 ∧ un g.R g.n r t < g.n + 1) ∧ (un g.S g.n g.n t = t ∨ un g.K g.n k t = 0 ∨ un g.K g.n k (un g.S g.n g.n t) = un g.K g.n k t)
  by_cases c : t = g.n
  · subst c
    rw [un_at, un_at, un_at, un_at]
    exact ⟨fun e => ⟨by have := (hk e).1; omega, by have := (hk e).2; omega⟩, Or.inl rfl⟩
  · have ht' : t < g.n := by omega
    obtain ⟨p1, p2⟩ := h.2 t ht'
    have hs : g.S t < g.n := by obtain ⟨d, hd⟩ := h.1; exact (hd t ht').1
    rw [un_ne _ _ c, un_ne _ _ c, un_ne _ _ c, un_ne _ _ c, un_ne _ _ (by omega)]
    exact ⟨fun e => ⟨by have := (p1 e).1; omega, by have := (p1 e).2; omega⟩, p2⟩
/-- what solves it with a new node -/
theorem gS_nw (h : gK g) {k l r : Nat} (hl : l < g.n) (hr : r < g.n) : gS (gNw g k l r) ρ ↔ gS g ρ ∧ (k = 1 → ρ g.n = yA (ρ l) (ρ r)) ∧ (∀ j, k = j + 2 → ρ g.n = yB j) := by
  have low : ∀ t, t < g.n → (gNw g k l r).K t = g.K t ∧ (gNw g k l r).L t = g.L t ∧ (gNw g k l r).R t = g.R t ∧ (gNw g k l r).S t = g.S t := fun t ht => ⟨un_ne _ _ (by omega), un_ne _ _ (by omega), un_ne _ _ (by omega), un_ne _ _ (by omega)⟩
  have hi : (gNw g k l r).K g.n = k ∧ (gNw g k l r).L g.n = l ∧ (gNw g k l r).R g.n = r ∧ (gNw g k l r).S g.n = g.n := ⟨un_at _ _ _, un_at _ _ _, un_at _ _ _, un_at _ _ _⟩
  refine ⟨fun H => ⟨fun t ht => ?_, ?_⟩, fun H t ht => ?_⟩
  · have := H t (show t < g.n + 1 by omega)
    obtain ⟨l1, l2, l3, l4⟩ := low t ht
    rw [l1, l2, l3, l4] at this
    exact this
  · have := H g.n (show g.n < g.n + 1 by omega)
    rw [hi.1, hi.2.1, hi.2.2.1, hi.2.2.2] at this
    exact this.2
  · by_cases c : t = g.n
    · subst c
      rw [hi.1, hi.2.1, hi.2.2.1, hi.2.2.2]
      exact ⟨rfl, H.2⟩
    · have ht' : t < g.n := by have : t < g.n + 1 := ht; omega
      obtain ⟨l1, l2, l3, l4⟩ := low t ht'
      rw [l1, l2, l3, l4]
      exact H.1 t ht'
end GRA
