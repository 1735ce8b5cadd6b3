/-! read trees: words of an S stand in order, a sign between two; a product is not too large; C's as they are read -/
/-- words from i on, two apart, before j -/
def sOr : List tP → Nat → Nat → Prop
  | [], i, j => i ≤ j + 1
  | p :: ps, i, j => i ≤ p.2.2 ∧ sOr ps (p.2.2 + 2) j
/-- both S's of a product stand in order; an ARG without brackets is one NUMBER or NAME -/
def tPr : tT → Prop
  | .leaf => True
  | .inner g d _ a b => (g = 11 → ∃ i l j, sOr d.2.2.2.1.2 i l ∧ sOr d.2.2.2.2.2 (l + 1) j) ∧ (g = 33 → d.2.1 ≠ 1 → ∃ k w, k ≤ 1 ∧ d.2.2.2.1.2 = [(k, false, w)]) ∧ (if g = 4 ∨ g = 5 then True else tPr a) ∧ tPr b
section SOR
variable {kk pp ee f : Nat → Int32} {T len cnt : Nat} {V : zSt}
theorem sOr.mo : ∀ (ps : List tP) {i i' j : Nat}, i' ≤ i → sOr ps i j → sOr ps i' j
  | [], i, i', j, h, w => by have w : i ≤ j + 1 := w; show i' ≤ j + 1; omega
  | p :: ps, i, i', j, h, w => ⟨by have := w.1; omega, w.2⟩
theorem aSL_or : ∀ (t i : Nat) {ps : List tP} {j : Nat}, aSL kk t i = .inr (ps, j) → sOr ps (i + 1) j
  | 0, i, ps, j, h => by unfold aSL at h; cases h
  | t + 1, i, ps, j, h => by
    unfold aSL at h
    split at h
    · obtain ⟨p, l, e1, h⟩ := on_inr h
      obtain ⟨ps', l2, e2, h⟩ := on_inr h
      injection h with h; injection h with e3 e4; subst e3; subst e4
      obtain ⟨a1, a2, a3, a4⟩ := aPt_fx e1
      exact ⟨a2.1, (aSL_or t l e2).mo _ (by omega)⟩
    · injection h with h; injection h with e3 e4; subst e3; subst e4
      exact Nat.le_refl (i + 1)
theorem aSm_or {i j : Nat} {S : tS} (h : aSm kk T i = .inr (S, j)) : sOr S.2 i j := by
  unfold aSm at h
  obtain ⟨p, l, e1, h⟩ := on_inr h
  obtain ⟨ps, l2, e2, h⟩ := on_inr h
  injection h with h; injection h with e3 e4; subst e3; subst e4
  obtain ⟨a1, a2, a3, a4⟩ := aPt_fx e1
  have hi : i ≤ (if aIs kk 45 i = true then i + 1 else i) := by split <;> omega
  exact ⟨by omega, (aSL_or T l e2).mo _ (by omega)⟩
theorem aE_pr (k i : Nat) (t : tT) (j : Nat) (h : aE kk T k i = .inr (t, j)) : tPr t := by
  refine aE_ind (P := fun k i t j => tPr t) (Q := fun k q i t j => tPr t) ?_ ?_ ?_ ?_ ?_ ?_ ?_ ?_ ?_ ?_ ?_ ?_ ?_ ?_ ?_ ?_ ?_ ?_ ?_ ?_ k i t j h
  · intro k i a l b j _ _ Pa _ Pb
    exact ⟨fun e => absurd e (by decide), fun e => absurd e (by decide), Pa, Pb⟩
  · intro k i q a l b j _ _ _ _ _ _ Pa _ Pb
    exact ⟨fun e => absurd e (by decide), fun e => absurd e (by decide), Pa, Pb⟩
  · intro k i a j _ _ _ Pa
    exact ⟨fun e => absurd e (by decide), fun e => absurd e (by decide), Pa, trivial⟩
  · intro k i c l a m b j _ _ _ Pa _ Pb
    exact ⟨fun e => absurd e (by decide), fun e => absurd e (by decide), trivial, fun e => absurd e (by decide), fun e => absurd e (by decide), Pa, Pb⟩
  · intro k i c l a j _ _ _ Pa
    exact ⟨fun e => absurd e (by decide), fun e => absurd e (by decide), trivial, Pa⟩
  · intro k i S l S' m a j _ _ _ h1 _ _ h2 _ Pa
    exact ⟨fun e => absurd e (by decide), fun e => absurd e (by decide), Pa, trivial⟩
  · intro k i S j _ h1
    exact ⟨fun e => absurd e (by decide), fun e => absurd e (by decide), trivial, trivial⟩
  · intro k i g hg
    rcases hg with ⟨_, rfl⟩ | ⟨_, rfl⟩ | ⟨_, rfl⟩ <;> exact ⟨fun e => absurd e (by decide), fun e => absurd e (by decide), trivial, trivial⟩
  · intro k i S j _ h1
    exact ⟨fun e => absurd e (by decide), fun e => absurd e (by decide), trivial, trivial⟩
  · intro k i g S l S' j hg h1 h2
    rcases hg with ⟨_, rfl⟩ | ⟨_, rfl⟩ | ⟨_, rfl⟩ <;> exact ⟨fun e => ⟨i, l, j, aSm_or h1, aSm_or h2⟩, fun e => absurd e (by decide), trivial, trivial⟩
  · intro k i S l _ _ h1 _
    exact ⟨fun e => absurd e (by decide), fun e => absurd e (by decide), trivial, trivial⟩
  · intro k i as j _ _ Qa
    exact ⟨fun e => absurd e (by decide), fun e => absurd e (by decide), Qa, trivial⟩
  · intro k i a l _ Pa _
    exact ⟨fun e => absurd e (by decide), fun e => absurd e (by decide), Pa, trivial⟩
  · intro k i S l _ h1 _
    exact ⟨fun e => absurd e (by decide), fun e => absurd e (by decide), trivial, trivial⟩
  · intro k i a l b j _ _ Pa _ _ _ _ Pb
    exact ⟨fun e => absurd e (by decide), fun e => absurd e (by decide), Pa, Pb⟩
  · intro k q i _
    exact trivial
  · intro k q i b j _ _ hk Qb
    exact ⟨fun e => absurd e (by decide), fun _ _ => ⟨_, _, (by split <;> omega), rfl⟩, trivial, Qb⟩
  · intro k q i S l b j _ _ h1 _ Qb
    exact ⟨fun e => absurd e (by decide), fun _ e => absurd rfl e, trivial, Qb⟩
  · intro k q i e l b j _ _ Pe _ Qb
    exact ⟨fun e => absurd e (by decide), fun e => absurd e (by decide), Pe, Qb⟩
  · intro k q i v b j _ Qb
    exact ⟨fun e => absurd e (by decide), fun e => absurd e (by decide), trivial, Qb⟩
/-- letters up to a word, one more at the end -/
def gM (pp : Nat → Int32) (cnt len i : Nat) : Nat := if i < cnt then gL pp cnt len i else len + 1
theorem gM_st (hw : rW V T len cnt kk pp ee f) (ho : oW pp ee cnt) (i : Nat) : gM pp cnt len i ≤ gM pp cnt len (i + 1) ∧ (i < cnt → wtL pp ee i + gM pp cnt len i ≤ gM pp cnt len (i + 1) + 1 ∧ gM pp cnt len i < gM pp cnt len (i + 1)) ∧ gM pp cnt len i ≤ len + 1 ∧ (i < cnt → wtL pp ee i + gM pp cnt len i ≤ len + 1) := by
  have key : ∀ i, i < cnt → ∃ a e, a < e ∧ e ≤ len ∧ gL pp cnt len i = a ∧ e ≤ gL pp cnt len (i + 1) ∧ wtL pp ee i = e - a + 1 ∧ gL pp cnt len (i + 1) ≤ len := fun i hi => by
    obtain ⟨a, b1, b2, b3, b4, b5, b6⟩ := gL_step hw ho hi
    obtain ⟨-, -, -, -, hwell, -, -, hlen⟩ := hw
    obtain ⟨a', c1, c2, c3, c4, c5, c6⟩ := hwell i hi
    have : a' = a := by
      unfold gL at b5
      rw [if_pos hi, c4, nI_clamp (by omega)] at b5
      exact b5
    subst this
    refine ⟨a', _, c2, c3, b5, b6, ?_, ?_⟩
    · unfold wtL
      rw [c4, c5, nI_clamp (by omega), nI_clamp (by omega)]
    · unfold gL
      by_cases c : i + 1 < cnt
      · rw [if_pos c]
        obtain ⟨a2, d1, d2, d3, d4, d5, d6⟩ := hwell (i + 1) c
        rw [d4, nI_clamp (by omega)]
        omega
      · rw [if_neg c]
        exact Nat.le_refl _
  by_cases c : i < cnt
  · obtain ⟨a, e, k1, k2, k3, k4, k5, k6⟩ := key i c
    by_cases c1 : i + 1 < cnt
    · have e1 : gM pp cnt len i = a := by unfold gM; rw [if_pos c, k3]
      have e2 : gM pp cnt len (i + 1) = gL pp cnt len (i + 1) := by unfold gM; rw [if_pos c1]
      rw [e1, e2, k5]
      exact ⟨by omega, fun _ => ⟨by omega, by omega⟩, by omega, fun _ => by omega⟩
    · have e1 : gM pp cnt len i = a := by unfold gM; rw [if_pos c, k3]
      have e2 : gM pp cnt len (i + 1) = len + 1 := by unfold gM; rw [if_neg c1]
      rw [e1, e2, k5]
      exact ⟨by omega, fun _ => ⟨by omega, by omega⟩, by omega, fun _ => by omega⟩
  · have e1 : gM pp cnt len i = len + 1 := by unfold gM; rw [if_neg c]
    have e2 : gM pp cnt len (i + 1) = len + 1 := by unfold gM; rw [if_neg (by omega)]
    rw [e1, e2]
    exact ⟨Nat.le_refl _, fun z => absurd z c, Nat.le_refl _, fun z => absurd z c⟩
theorem gM_mo (hw : rW V T len cnt kk pp ee f) (ho : oW pp ee cnt) (i : Nat) : ∀ k, gM pp cnt len i ≤ gM pp cnt len (i + k)
  | 0 => Nat.le_refl _
  | k + 1 => Nat.le_trans (gM_mo hw ho i k) (gM_st hw ho (i + k)).1
theorem gM_2 (hw : rW V T len cnt kk pp ee f) (ho : oW pp ee cnt) {i : Nat} (hi : i < cnt) : wtL pp ee i + gM pp cnt len i ≤ gM pp cnt len (i + 2) := by
  obtain ⟨a1, a2, a3, a4⟩ := gM_st hw ho i
  obtain ⟨b1, b2, b3, b4⟩ := gM_st hw ho (i + 1)
  rw [show i + 1 + 1 = i + 2 from rfl] at b1 b2
  by_cases c : i + 1 < cnt
  · have := (a2 hi).1
    have := (b2 c).2
    omega
  · have e2 : gM pp cnt len (i + 2) = len + 1 := by unfold gM; rw [if_neg (by omega)]
    rw [e2]
    exact a4 hi
theorem sOr.wt (hw : rW V T len cnt kk pp ee f) (ho : oW pp ee cnt) : ∀ (ps : List tP) (i j : Nat), (∀ p, p ∈ ps → p.2.2 < cnt) → sOr ps i j → lwS (wtL pp ee) ps + gM pp cnt len i ≤ gM pp cnt len (j + 1)
  | [], i, j, _, h => by
    have h : i ≤ j + 1 := h
    obtain ⟨k, e⟩ := Nat.exists_eq_add_of_le h
    have := gM_mo hw ho i k
    rw [← e] at this
    show 0 + _ ≤ _
    omega
  | p :: ps, i, j, hp, h => by
    have I := sOr.wt hw ho ps (p.2.2 + 2) j (fun x hx => hp x (List.mem_cons_of_mem _ hx)) h.2
    obtain ⟨k, e⟩ := Nat.exists_eq_add_of_le h.1
    have m := gM_mo hw ho i k
    rw [← e] at m
    have w := gM_2 hw ho (hp p (List.mem_cons_self ..))
    rw [lwS_c]
    split <;> omega
theorem pr_le : ∀ a b : Nat, a + b ≤ 2001 → a * b ≤ 1001000 := fun a b h => by
  have d : ∀ a, a < 2002 → a * (2001 - a) ≤ 1001000 := by decide +kernel
  have := d a (by omega)
  exact Nat.le_trans (Nat.mul_le_mul_left a (show b ≤ 2001 - a by omega)) this
theorem pr_in {x y : Int} {a b : Nat} (hab : a + b ≤ 2001) (h1 : -(2000 * (a : Int)) ≤ x) (h2 : x ≤ 2000 * (a : Int)) (h3 : -(2000 * (b : Int)) ≤ y) (h4 : y ≤ 2000 * (b : Int)) : -4004000000000 ≤ x * y ∧ x * y ≤ 4004000000000 := by
  have k : (x * y).natAbs ≤ 4004000000000 := by
    rw [Int.natAbs_mul]
    have := Nat.mul_le_mul (show x.natAbs ≤ 2000 * a by omega) (show y.natAbs ≤ 2000 * b by omega)
    have e : 2000 * a * (2000 * b) = 4000000 * (a * b) := by
      rw [Nat.mul_mul_mul_comm]
    have := pr_le a b hab
    omega
  omega
/-- **a product of two numbers** -/
theorem pr_ok {p1 p2 : List tP} {i l j : Nat} {B : Int} (hT : 2010 ≤ T) (hw : rW V T len cnt kk pp ee f) (ho : oW pp ee cnt) (g1 : sGd cnt p1) (k1 : sKn kk p1) (g2 : sGd cnt p2) (k2 : sKn kk p2) (o1 : sOr p1 i l) (o2 : sOr p2 (l + 1) j) (hB : 8008000000002 ≤ B) : gTb B (none, (sPl T f pp ee p1).toInt * (sPl T f pp ee p2).toInt) := by
  have w1 := sOr.wt hw ho p1 i l g1.1 o1
  have w2 := sOr.wt hw ho p2 (l + 1) j g2.1 o2
  have w3 := (gM_st hw ho (j + 1)).2.2.1
  have hl := hw.2.2.2.2.2.2.2
  have ab : lwS (wtL pp ee) p1 + lwS (wtL pp ee) p2 ≤ 2001 := by omega
  have n1 := nLs_bd (wt := wtL pp ee) (Or.inl rfl) p1 0 0 (nW_w hT hw g1 k1) (by decide) (by decide) (by omega)
  have n2 := nLs_bd (wt := wtL pp ee) (Or.inl rfl) p2 0 0 (nW_w hT hw g2 k2) (by decide) (by decide) (by omega)
  have e1 : sPl T f pp ee p1 = nLs T f pp ee 1 p1 0 := by unfold sPl; exact sPl_n p1 0 (sNw_of hT hw p1 g1 k1)
  have e2 : sPl T f pp ee p2 = nLs T f pp ee 1 p2 0 := by unfold sPl; exact sPl_n p2 0 (sNw_of hT hw p2 g2 k2)
  rw [e1, e2]
  obtain ⟨x1, x2⟩ := pr_in ab (show -(2000 * ((lwS (wtL pp ee) p1 : Nat) : Int)) ≤ (nLs T f pp ee 1 p1 0).toInt by omega) (by omega) (show -(2000 * ((lwS (wtL pp ee) p2 : Nat) : Int)) ≤ (nLs T f pp ee 1 p2 0).toInt by omega) (by omega)
  unfold gTb
  dsimp only
  omega
end SOR
