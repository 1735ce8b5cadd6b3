/-! the reference reads a PROGRAM -/
/-- kept while a PROGRAM is read: all but its own places; QUALS below a, INPUTS below b -/
def rPg (a b : Nat) (τ τ' : zSt) : Prop := τ'.2.1 = τ.2.1 ∧ τ'.2.2.2 = τ.2.2.2 ∧ (∀ k, k ≠ 10 → k ≠ 11 → k ≠ 12 → k ≠ 20 → k ≠ 24 → k ≠ 28 → k ≠ 32 → k ≠ 33 → k ≠ 45 → k ≠ 39 → k ≠ 42 → k ≠ 43 → τ'.1 k = τ.1 k) ∧ ∀ k j, (k < 6 ∨ 22 ≤ k) → k ≠ 29 → (22 ≤ k → k ≤ 26 → j < a) → (27 ≤ k → k ≤ 28 → j < b) → τ'.2.2.1 k j = τ.2.2.1 k j
theorem rPg.rf (a b : Nat) (τ : zSt) : rPg a b τ τ := ⟨rfl, rfl, fun _ _ _ _ _ _ _ _ _ _ _ _ _ => rfl, fun _ _ _ _ _ _ => rfl⟩
theorem rPg.tr {a b a' b' : Nat} {τ τ' τ'' : zSt} (h : rPg a b τ τ') (h' : rPg a' b' τ' τ'') (ha : a ≤ a') (hb : b ≤ b') : rPg a b τ τ'' := ⟨h'.1.trans h.1, h'.2.1.trans h.2.1, fun k a1 a2 a3 a4 a5 a6 a7 a8 a9 a10 a11 a12 => (h'.2.2.1 k a1 a2 a3 a4 a5 a6 a7 a8 a9 a10 a11 a12).trans (h.2.2.1 k a1 a2 a3 a4 a5 a6 a7 a8 a9 a10 a11 a12), fun k j p q r s => (h'.2.2.2 k j p q (fun x y => by have := r x y; omega) (fun x y => by have := s x y; omega)).trans (h.2.2.2 k j p q r s)⟩
theorem rQf.pg {q : Nat} {τ τ' : zSt} (h : rQf q τ τ') {a : Nat} (b : Nat) (ha : a ≤ q) : rPg a b τ τ' := ⟨h.1, h.2.1, fun k a1 a2 a3 a4 a5 a6 a7 a8 a9 a10 _ _ => h.2.2.1 k a1 a2 a3 a4 a5 a6 a7 a8 a9 a10, fun k j p q' r s => h.2.2.2 k j p q' (fun ⟨x, y, z⟩ => by have := r x y; omega)⟩
theorem rAg.pg {N S P A C : Nat} {τ τ' : zSt} (h : rAg N S P A C τ τ') (a b : Nat) : rPg a b τ τ' := ⟨h.1, h.2.1, fun k a1 a2 a3 a4 a5 a6 a7 a8 a9 _ _ _ => h.2.2.1 k a1 a2 a3 a4 a5 a6 a7 a8 a9, fun k j p q _ _ => h.2.2.2 k j ⟨fun _ _ => by omega, fun _ _ => by omega, fun _ _ => by omega, fun _ _ => by omega, fun _ => by omega⟩⟩
theorem rPg.i {a b k : Nat} {τ τ' : zSt} {v : Int32} (h : rPg a b τ τ') (hk : k = 10 ∨ k = 39 ∨ k = 42 ∨ k = 43) : rPg a b τ (zI τ' k v) := by
  refine ⟨h.1, h.2.1, fun k' a1 a2 a3 a4 a5 a6 a7 a8 a9 a10 a11 a12 => ?_, h.2.2.2⟩
  rw [zIn _ _ (by omega)]
  exact h.2.2.1 k' a1 a2 a3 a4 a5 a6 a7 a8 a9 a10 a11 a12
theorem rPg.a {a b k x : Nat} {τ τ' : zSt} {v : Int32} (h : rPg a b τ τ') (h1 : 27 ≤ k) (h2 : k ≤ 28) (hx : b ≤ x) : rPg a b τ (zA τ' k (upd (τ'.2.2.1 k) x v)) := by
  refine ⟨h.1, h.2.1, h.2.2.1, fun k' j p q r s => ?_⟩
  rw [← h.2.2.2 k' j p q r s]
  by_cases e : k' = k
  · subst e
    have := s h1 h2
    rw [zAe, upd_ne _ _ (by omega)]
  · rw [zAn _ _ e]
def iR (τ : zSt) (a : Nat) (x : Nat × Nat) : Prop := τ.2.2.1 27 a = nI x.1 ∧ τ.2.2.1 28 a = nI x.2
theorem qR.pg {T : Nat} {f pp ee : Nat → Int32} {a b q : Nat} {τ τ' : zSt} {x : tQ} (h : qR T f pp ee τ q x) (g : rPg a b τ τ') (hq : q < a) : qR T f pp ee τ' q x := by
  obtain ⟨h1, h2, h3, h4, h5⟩ := h
  have G : ∀ k, 22 ≤ k → k ≤ 26 → τ'.2.2.1 k q = τ.2.2.1 k q := fun k x y => g.2.2.2 k q (Or.inr x) (by omega) (fun _ _ => hq) (fun z _ => by omega)
  exact ⟨(G 22 (by omega) (by omega)).trans h1, (G 23 (by omega) (by omega)).trans h2, (G 24 (by omega) (by omega)).trans h3, (G 25 (by omega) (by omega)).trans h4, (G 26 (by omega) (by omega)).trans h5⟩
theorem iR.pg {a b q : Nat} {τ τ' : zSt} {x : Nat × Nat} (h : iR τ q x) (g : rPg a b τ τ') (hq : q < b) : iR τ' q x := by
  have G : ∀ k, 27 ≤ k → k ≤ 28 → τ'.2.2.1 k q = τ.2.2.1 k q := fun k x y => g.2.2.2 k q (Or.inr (by omega)) (by omega) (fun _ _ => by omega) (fun _ _ => hq)
  exact ⟨(G 27 (by omega) (by omega)).trans h.1, (G 28 (by omega) (by omega)).trans h.2⟩
section RPR
variable {κ : oKv} {ks : Nat → Nat} {qs : List Nat} {T m h0 len cnt sz d N S P A C z i k zc n q : Nat} {τ τ0 : zSt} {s : Sum Nat Nat} {kk pp ee f : Nat → Int32}
/-- the end where a fault stands -/
theorem q_396B {t j : Nat} (h : pB pp τ j) (hm : 3 ≤ m) (ht : 0 < t) : l_program_396 T (zF h0 qs ks T m) h0 qs ks t τ = some (none, zI τ 43 0) := by
  obtain ⟨t, rfl⟩ : ∃ t', t = t' + 1 := ⟨t - 1, by omega⟩
  have ex : zF h0 qs ks T m 26 [.ref h0] τ = some (some (.int 0), τ) := by
    obtain ⟨n, rfl⟩ : ∃ n, m = n + 1 := ⟨m - 1, by omega⟩
    have e : j_expression_13 T (zF h0 qs ks T n) h0 qs ks τ = some (some (.int 0), τ) := by
      unfold j_expression_13
      rw [if_neg (show ¬ τ.1 11 = 0 by rw [h.1]; decide)]
    rw [zE_expression]
    unfold b_expression
    rw [B_form h (by omega)]
    simp only [zcv, e, ite_self]
  rw [l_program_396, B_here h.1 (by omega), zci_at, if_pos rfl, ex, zci_at, zlet_at, if_neg (show ¬ (zI τ 43 0).1 11 = 0 by rw [zIn _ _ (show 11 ≠ 43 by decide), h.1]; decide)]
theorem q_35B {t j : Nat} (hT : 2010 ≤ T) (h : pB pp τ j) (hm : 3 ≤ m) (ht : 0 < t) : l_program_35 T (zF h0 qs ks T m) h0 qs ks t τ = some (none, zI τ 43 0) := by
  obtain ⟨t, rfl⟩ : ∃ t', t = t' + 1 := ⟨t - 1, by omega⟩
  rw [l_program_35, B_here h.1 (by omega), zci_at, if_pos rfl]
  exact q_396B h hm (by omega)
/-- the QUALS -/
theorem q_35 (hf : lFacts κ ks sz) (hT : 2010 ≤ T) (hm : 5 ≤ m) : ∀ (q t i nq : Nat) (τ : zSt), nq + q = 6 → q < t → τ.1 39 = nI nq → rR T len cnt kk pp ee f 0 τ 0 0 0 0 0 (.inr i) → (∀ xs j, aQs kk q i = .inr (xs, j) → ∃ τ', l_program_35 T (zF h0 qs ks T m) h0 qs ks t τ = l_program_396 T (zF h0 qs ks T m) h0 qs ks T τ' ∧ rR T len cnt kk pp ee f 0 τ' 0 0 0 0 0 (.inr j) ∧ τ'.1 39 = nI (nq + xs.length) ∧ τ'.1 42 = τ.1 42 ∧ rPg nq 0 τ τ' ∧ i ≤ j ∧ (∀ a x, xs[a]? = some x → qR T f pp ee τ' (nq + a) x)) ∧ (∀ j, aQs kk q i = .inl j → ∃ τ', l_program_35 T (zF h0 qs ks T m) h0 qs ks t τ = some (none, τ') ∧ (τ'.1 11 = 2 ∧ τ'.1 12 = pp j ∧ τ'.1 45 = 0) ∧ rPg nq 0 τ τ') := by
  intro q
  induction q with
  | zero =>
    intro t i nq τ hn ht h39 h
    obtain ⟨t, rfl⟩ : ∃ t', t = t' + 1 := ⟨t - 1, by omega⟩
    obtain rfl : nq = 6 := by omega
    obtain ⟨b, g1, q1⟩ := q_here (h0 := h0) (qs := qs) (ks := ks) (m := m) hf hT h (show (487, "qual", 218) ∈ zKp by decide) (by omega)
    have q1' : b = aIs kk 218 i := q1
    rw [l_program_35, g1, zci_at, aQs]
    cases b with
    | false =>
      rw [if_pos (show b01 false = 0 from rfl), ← q1']
      refine ⟨fun xs j e => ?_, fun j e => (by cases e)⟩
      cases e
      exact ⟨τ, rfl, h, h39, rfl, rPg.rf _ _ _, (Nat.le_refl _), fun a x e => by cases e⟩
    | true =>
      rw [if_neg (show ¬ b01 true = 0 by decide), h39, if_pos (show nI 6 = 6 from rfl), ← q1']
      obtain ⟨τ1, f1, f2, f3⟩ := q_form (h0 := h0) (qs := qs) (ks := ks) (m := m) h (by omega)
      rw [f1, zcv_at]
      unfold j_program_58
      rw [if_neg (show ¬ τ1.1 11 = 0 by rw [f2.2.2.1]; decide)]
      refine ⟨fun xs j e => (by cases e), fun j e => ?_⟩
      cases e
      exact ⟨τ1, rfl, ⟨f2.2.2.1, f2.2.2.2.1, f2.2.1.2.2.2.2.2⟩, f3.pg _ _⟩
  | succ q IH =>
    intro t i nq τ hn ht h39 h
    obtain ⟨t, rfl⟩ : ∃ t', t = t' + 1 := ⟨t - 1, by omega⟩
    obtain ⟨b, g1, q1⟩ := q_here (h0 := h0) (qs := qs) (ks := ks) (m := m) hf hT h (show (487, "qual", 218) ∈ zKp by decide) (by omega)
    have q1' : b = aIs kk 218 i := q1
    rw [l_program_35, g1, zci_at, aQs]
    cases b with
    | false =>
      rw [if_pos (show b01 false = 0 from rfl), ← q1']
      refine ⟨fun xs j e => ?_, fun j e => (by cases e)⟩
      cases e
      exact ⟨τ, rfl, h, h39, rfl, rPg.rf _ _ _, (Nat.le_refl _), fun a x e => by cases e⟩
    | true =>
      have c0 : aIs kk 218 i = true := q1'.symm
      rw [if_neg (show ¬ b01 true = 0 by decide), h39, if_neg (show ¬ nI nq = 6 from fun e => by have := nI_inj' (by omega) (by decide) (e.trans (show (6 : Int32) = nI 6 from rfl)); omega), if_pos c0]
      obtain ⟨τ1, f1, f2, f3, f4, f5⟩ := q_qual (h0 := h0) (qs := qs) (ks := ks) (m := m) hf hT hm (l_program_35 T (zF h0 qs ks T m) h0 qs ks t) (show nq < 6 by omega) h39 h c0
      have e42 : τ1.1 42 = τ.1 42 := f3.2.2.1 42 (by decide) (by decide) (by decide) (by decide) (by decide) (by decide) (by decide) (by decide) (by decide) (by decide)
      rw [f1]
      cases ex : aQl kk i with
      | inl j0 =>
        refine ⟨fun xs j e => (by cases e), fun j e => ?_⟩
        cases e
        have hb := f5 j0 ex
        rw [q_35B hT hb (by omega) (by omega)]
        exact ⟨_, rfl, ⟨hb.1, hb.2.1, hb.c⟩, (f3.pg 0 (Nat.le_refl _)).i (by omega)⟩
      | inr r =>
        obtain ⟨x, j1⟩ := r
        obtain ⟨y1, y2, y3⟩ := f4 x j1 ex
        obtain ⟨I1, I2⟩ := IH t j1 (nq + 1) τ1 (by omega) (by omega) f2 y2
        have eO : (aR.on (Sum.inr (x, j1) : aR tQ) fun x j => (aQs kk q j).on fun xs j' => (Sum.inr (x :: xs, j') : aR (List tQ))) = (aQs kk q j1).on fun xs j' => .inr (x :: xs, j') := rfl
        refine ⟨fun xs j e => ?_, fun j e => ?_⟩
        · rw [eO] at e
          obtain ⟨xs', j', z1, e⟩ := on_ok e
          cases e
          obtain ⟨τ', l1, l2, l3, l4, l5, l6, l7⟩ := I1 xs' _ z1
          refine ⟨τ', l1, l2, ?_, l4.trans e42, (f3.pg 0 (Nat.le_refl _)).tr l5 (Nat.le_succ _) (Nat.le_refl _), by omega, fun a y ey => ?_⟩
          · rw [l3, List.length_cons, show nq + 1 + xs'.length = nq + (xs'.length + 1) by omega]
          · cases a with
            | zero => cases ey; exact y3.pg l5 (by omega)
            | succ a =>
              have := l7 a y ey
              rw [show nq + (a + 1) = nq + 1 + a by omega]
              exact this
        · rw [eO] at e
          cases z1 : aQs kk q j1 with
          | inl j' =>
            rw [z1] at e
            cases e
            obtain ⟨τ', l1, l2, l3⟩ := I2 _ z1
            exact ⟨τ', l1, l2, (f3.pg 0 (Nat.le_refl _)).tr l3 (Nat.le_succ _) (Nat.le_refl _)⟩
          | inr r => rw [z1] at e; cases e
end RPR
