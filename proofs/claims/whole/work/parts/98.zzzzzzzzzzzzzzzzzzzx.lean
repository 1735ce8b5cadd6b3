/-! the class's gather(): its four lists -/
/-- kinds of what they hold: Scopes, Knowns, Knowns, Nodes -/
def lkd (i : Nat) : Nat := if i = 0 then 10 else if i = 3 then 7 else 4
/-- **the four lists**: lengths, contents, cs places of all rows that they ever had -/
def lFo4 (κ : oKv) (l : Nat → Nat) (σ : oSt) (ln : Nat → Nat) (ct : Nat → Nat → Option Nat) (cs : Nat) : Prop := ∃ (d c : Nat → Nat) (mc : Nat → Int32), (∀ i, i < 4 → cLo κ σ (l i) (d i) (c i) (ln i) (mc i) (ct i) (lkd i) ∧ 2 * c i ≤ 20 + 3 * ln i) ∧ (∀ i j, i < 4 → j < 4 → i ≠ j → l i ≠ l j ∧ (d i = d j → d i = κ.2.2.1)) ∧ ∃ r : Nat → Nat, (∀ i, i < 4 → 4 * r i ≤ 13 * c i) ∧ cs = r 0 + r 1 + r 2 + r 3
/-- all but the lists stays -/
def lXp (l : Nat → Nat) (σ σ' : oSt) : Prop := (∀ x cc, σ.1 x = some cc → (∀ i, i < 4 → x ≠ l i) → ¬ ldS l σ x → σ'.1 x = some cc ∧ ¬ ldS l σ' x) ∧ (∀ x, x < σ.2.1 → σ.1 x = none → σ'.1 x = none) ∧ σ.2.1 ≤ σ'.2.1 ∧ ∀ x fs, σ'.1 x = some (.inr (6, fs)) → σ.1 x = some (.inr (6, fs)) ∨ (σ.2.1 ≤ x ∧ fs.length = 8 ∧ fs[5]? = some (va_rf none))
theorem lXp.rf {l : Nat → Nat} {σ : oSt} : lXp l σ σ := ⟨fun x cc e _ h => ⟨e, h⟩, fun _ _ h => h, Nat.le_refl _, fun _ _ h => Or.inl h⟩
theorem lXp.tr {l : Nat → Nat} {a b c : oSt} (h : lXp l a b) (g : lXp l b c) : lXp l a c := ⟨fun x cc e hn hd => g.1 x cc (h.1 x cc e hn hd).1 hn (h.1 x cc e hn hd).2, fun x hx e => g.2.1 x (Nat.lt_of_lt_of_le hx h.2.2.1) (h.2.1 x hx e), Nat.le_trans h.2.2.1 g.2.2.1, fun x fs e => (g.2.2.2 x fs e).elim (h.2.2.2 x fs) (fun z => Or.inr ⟨Nat.le_trans h.2.2.1 z.1, z.2⟩)⟩
theorem oNl.xp {st : Nat} {l : Nat → Nat} {b0 : Nat} {Q : Nat → Prop} {σ σ' : oSt} {d e : Nat} (o : oNl σ σ' d e) (iv : gIv st l b0 Q σ) (h6 : oN6 σ σ') : lXp l σ σ' := ⟨fun x cc h hn hd => by
  have lt : x < σ.2.1 := Nat.lt_of_not_le (fun z => by rw [iv.1 _ z] at h; cases h)
  exact ⟨by rw [o.1 x lt]; exact h, fun ⟨i, mc, n, hi, w⟩ => hd ⟨i, mc, n, hi, by rw [← o.1 _ (iv.2.1 i hi)]; exact w⟩⟩, fun x hx h => by rw [o.1 x hx]; exact h, by rw [o.nx]; omega, fun x fs e => by
  by_cases c : x < σ.2.1
  · exact Or.inl (by rw [← o.1 x c]; exact e)
  · exact Or.inr ⟨by omega, h6 x fs (by omega) e⟩⟩
/-- what they cost: places that are made are paid for -/
def gCs (cs cs' : Nat) (σ σ' : oSt) (dn ds : Nat) : Prop := cs ≤ cs' ∧ 10 * σ'.2.2.1 ≤ 10 * σ.2.2.1 + (cs' - cs) + 10 * dn ∧ σ'.2.2.2 ≤ σ.2.2.2 + (cs' - cs) + ds
theorem gCs.tr {a b c : Nat} {σ σ' σ2 : oSt} {d e d' e' : Nat} (h : gCs a b σ σ' d e) (g : gCs b c σ' σ2 d' e') : gCs a c σ σ2 (d + d') (e + e') := by
  obtain ⟨h1, h2, h3⟩ := h
  obtain ⟨g1, g2, g3⟩ := g
  exact ⟨by omega, by omega, by omega⟩
theorem oNl.cs {σ σ' : oSt} {d e : Nat} (h : oNl σ σ' d e) (cs : Nat) : gCs cs cs σ σ' d e := by
  refine ⟨Nat.le_refl _, ?_, ?_⟩ <;> rw [h.2.2] <;> dsimp only <;> omega
theorem gCs.mo {a b : Nat} {σ σ' : oSt} {d e d' e' : Nat} (h : gCs a b σ σ' d e) (h1 : d ≤ d') (h2 : e ≤ e') : gCs a b σ σ' d' e' := ⟨h.1, by have := h.2.1; omega, by have := h.2.2; omega⟩
section LST
variable {κ : oKv} {T n : Nat} {st : Nat} {l : Nat → Nat} {b0 : Nat} {Q : Nat → Prop} {σ σ' : oSt} {ln : Nat → Nat} {ct : Nat → Nat → Option Nat} {cs : Nat}
/-- cells that are made leave the lists as they are -/
theorem lFo4.kp (h : lFo4 κ l σ ln ct cs) (ho : ∀ x, x < σ.2.1 → σ'.1 x = σ.1 x) (hfr : ∀ q, σ.2.1 ≤ q → σ.1 q = none) (hl : ∀ i, i < 4 → l i < σ.2.1) (hk : κ.2.2.1 < σ.2.1) : lFo4 κ l σ' ln ct cs := by
  have lt : ∀ {x cc}, σ.1 x = some cc → x < σ.2.1 := fun h => Nat.lt_of_not_le (fun e => by rw [hfr _ e] at h; cases h)
  obtain ⟨d, c, mc, h1, h2⟩ := h
  refine ⟨d, c, mc, fun i hi => ?_, h2⟩
  obtain ⟨⟨a1, a2, a3⟩, a4⟩ := h1 i hi
  refine ⟨⟨by rw [ho _ (hl i hi)]; exact a1, ?_, fun j hj b e => ?_⟩, a4⟩
  · rcases a2 with ⟨b1, b2, b3, b4⟩ | ⟨b1, b2⟩
    · exact Or.inl ⟨b1, b2, b3, by rw [ho _ (by rw [b3]; exact hk)]; exact b4⟩
    · exact Or.inr ⟨by rw [ho _ (lt b1)]; exact b1, b2⟩
  · obtain ⟨fs, e2⟩ := a3 j hj b e
    exact ⟨fs, by rw [ho _ (lt e2)]; exact e2⟩
/-- **add()** to one of them -/
theorem c_lad {i : Nat} {o : Option Nat} (hi : i < 4) (h : lFo4 κ l σ ln ct cs) (iv : gIv st l b0 Q σ) (hlow : σ.1 κ.2.2.1 = none) (hk : κ.2.2.1 < σ.2.1) (ho : ∀ b, o = some b → ∃ fs, σ.1 b = some (.inr (lkd i, fs))) (hn : ln i ≤ 12100) : ∃ σ' ct' cs' dd, oF κ T (n + 6) 227 [va_rf (some (l i)), va_rf o] σ = some (some (.int 1), σ') ∧ lFo4 κ l σ' (fun k => if k = i then ln i + 1 else ln k) ct' cs' ∧ (∀ j, j < ln i → ct' i j = ct i j) ∧ ct' i (ln i) = o ∧ (∀ k, k ≠ i → ct' k = ct k) ∧ (∀ a, a ≠ l i → a ≠ dd → σ'.1 a = σ.1 a) ∧ (σ.2.1 ≤ dd ∨ ldS l σ dd) ∧ σ'.1 κ.2.2.1 = none ∧ gIv st l b0 Q σ' ∧ (∀ W, gKp st l b0 W σ σ') ∧ gCs cs cs' σ σ' 0 0 ∧ lXp l σ σ' := by
  obtain ⟨iv1, iv2, iv3, iv4, iv5, iv6⟩ := id iv
  obtain ⟨d, c, mc, h1, h2, r, h3r, h3⟩ := h
  obtain ⟨a1, a2⟩ := h1 i hi
  have a3r := h3r i hi
  have k15 : lkd i < 15 ∧ lkd i ≠ 1 := by unfold lkd; split <;> (try split) <;> omega
  have lt : ∀ {x cc}, σ.1 x = some cc → x < σ.2.1 := fun h => Nat.lt_of_not_le (fun e => by rw [iv1 _ e] at h; cases h)
  obtain ⟨σ', d', cap', g', R, b1, b2, b3, b4, b5⟩ := l_addO (κ := κ) (T := T) (n := n) (o := o) hlow (by omega) a1 ho k15.1 k15.2 (by omega) (iv1 _ (Nat.le_refl _))
  have ldd : ∀ j, j < 4 → ldS l σ (d j) := fun j hj => ⟨j, mc j, nI (ln j), hj, (h1 j hj).1.1⟩
  have hdd : σ.2.1 ≤ d' ∨ ldS l σ d' := by
    rcases b5 with ⟨e, -⟩ | ⟨e, -⟩
    · rw [e]; exact Or.inr (ldd i hi)
    · rw [e]; exact Or.inl (Nat.le_refl _)
  have kne : σ'.1 κ.2.2.1 = none := by
    by_cases z : κ.2.2.1 = d'
    · rcases b1.2.1 with ⟨_, _, _, w⟩ | ⟨w, w2, w3⟩
      · rw [z]; exact w
      · exfalso
        rcases b5 with ⟨e, e2, -⟩ | ⟨e, -⟩
        · rcases a1.2.1 with ⟨x1, x2, _, _⟩ | ⟨x1, _⟩
          · omega
          · rw [← e, ← z, hlow] at x1; cases x1
        · omega
    · rw [b4 _ (fun e => by rw [e, a1.1] at hlow; cases hlow) z]; exact hlow
  have nx : σ.2.1 ≤ σ'.2.1 := by
    rcases b5 with ⟨_, _, e⟩ | ⟨_, _, _, _, e⟩ <;> rw [e]
    · exact Nat.le_refl _
    · exact Nat.le_succ _
  -- rows of the four lists afterwards
  have ld' : ∀ x, ldS l σ' x → ldS l σ x ∨ x = d' := fun x ⟨j, mc', m', hj, e⟩ => by
    by_cases z : j = i
    · subst z
      rw [b1.1] at e
      injection e with e
      injection e with e
      injection e with _ e
      injection e with _ e
      injection e with e _
      injection e with e
      exact Or.inr e.symm
    · refine Or.inl ⟨j, mc', m', hj, ?_⟩
      by_cases z2 : l j = d'
      · exfalso
        rcases b1.2.1 with ⟨_, _, w, _⟩ | ⟨w, _⟩
        · rw [z2, w, kne] at e; cases e
        · rw [z2, w] at e; cases e
      · rw [← b4 _ (h2 j i hj hi z).1 z2]; exact e
  have tm' : ∀ x, tmS b0 σ' x → tmS b0 σ x := fun x ⟨a, fs, eb, e, e5⟩ => by
    refine ⟨a, fs, eb, ?_, e5⟩
    rw [← b4 a (fun z => by rw [z, b1.1] at e; cases e) (fun z => by
      rcases b1.2.1 with ⟨_, _, w, _⟩ | ⟨w, _⟩
      · rw [z, w, kne] at e; cases e
      · rw [z, w] at e; cases e)]
    exact e
  have dlt : d' < σ'.2.1 := by
    rcases b5 with ⟨e, _, e2⟩ | ⟨e, _, _, _, e2⟩
    · rw [e2, e]; exact iv6 _ (ldd i hi)
    · rw [e2, e]; exact Nat.lt_succ_self _
  have ivn : gIv st l b0 Q σ' := by
    refine ⟨fun q hq => ?_, fun j hj => Nat.lt_of_lt_of_le (iv2 j hj) nx, ⟨Nat.le_trans iv3.1 nx, Nat.lt_of_lt_of_le iv3.2 nx⟩, fun x hx => Nat.lt_of_lt_of_le (iv4 x hx) nx, fun x hx => Nat.lt_of_lt_of_le (iv5 x (tm' x hx)) nx, fun x hx => ?_⟩
    · rw [b4 q (fun z => by have := iv2 i hi; omega) (fun z => by omega)]
      exact iv1 q (by omega)
    · rcases ld' x hx with z | z
      · exact Nat.lt_of_lt_of_le (iv6 x z) nx
      · rw [z]; exact dlt
  refine ⟨σ', fun k => if k = i then g' else ct k, cs + (σ'.2.2.2 - σ.2.2.2), d', R, ⟨fun k => if k = i then d' else d k, fun k => if k = i then cap' else c k, fun k => if k = i then mc i + 1 else mc k, fun j hj => ?_, fun j k hj hk' hjk => ⟨(h2 j k hj hk' hjk).1, ?_⟩, fun k => if k = i then r i + (σ'.2.2.2 - σ.2.2.2) else r k, fun j hj => ?_, ?_⟩, fun j hj => ?_, ?_, fun k hk' => if_neg hk', b4, hdd, kne, ivn, fun W => ?_, ?_, fun x cc e hn' hd' => ?_, fun x hx e => ?_, nx, fun x fs e => Or.inl ?_⟩
  · by_cases z : j = i
    · subst z
      simp only [if_true]
      refine ⟨b1, ?_⟩
      rcases b5 with ⟨_, e, _⟩ | ⟨_, e, e2, e3, _⟩
      · omega
      · by_cases z0 : c j = 0
        · have := e2 z0; omega
        · have := e3 (by omega); omega
    · simp only [z, if_false]
      obtain ⟨⟨x1, x2, x3⟩, x4⟩ := h1 j hj
      have ne : l j ≠ d' := fun e => by
        rcases b1.2.1 with ⟨_, _, w, _⟩ | ⟨w, _⟩
        · rw [w] at e; rw [e, hlow] at x1; cases x1
        · rcases hdd with q | ⟨i', mc', m', hi', q⟩
          · have := iv2 j hj; omega
          · have dr : σ.1 (l j) = some (.inr (1, [.int (mc j), .ref (d j), .int (nI (ln j))])) := x1
            rcases b5 with ⟨e5, _⟩ | ⟨e5, _⟩
            · rcases a1.2.1 with ⟨_, _, y3, y4⟩ | ⟨y1, _⟩
              · rw [e, e5, y4] at dr; cases dr
              · rw [e, e5, y1] at dr; cases dr
            · have := iv2 j hj; omega
      refine ⟨⟨by rw [b4 _ (h2 j i hj hi z).1 ne]; exact x1, ?_, fun q hq b e => ?_⟩, x4⟩
      · rcases x2 with ⟨y1, y2, y3, y4⟩ | ⟨y1, y2⟩
        · exact Or.inl ⟨y1, y2, y3, by rw [y3]; exact kne⟩
        · refine Or.inr ⟨?_, y2⟩
          rw [b4 _ (fun e => by rw [e, a1.1] at y1; cases y1) (fun e => ?_)]
          · exact y1
          · rcases b5 with ⟨e5, _⟩ | ⟨e5, _⟩
            · have := (h2 j i hj hi z).2 (by rw [e, e5])
              rw [this, hlow] at y1; cases y1
            · have := lt y1; omega
      · obtain ⟨fs, e2⟩ := x3 q hq b e
        refine ⟨fs, ?_⟩
        rw [b4 _ (fun z' => ?_) (fun z' => ?_)]
        · exact e2
        · rw [z', a1.1] at e2
          injection e2 with e2
          injection e2 with e2
          injection e2 with e2 _
          have : lkd j ≠ 1 := by unfold lkd; split <;> (try split) <;> omega
          exact this e2.symm
        · rcases b5 with ⟨e5, _⟩ | ⟨e5, _⟩
          · rcases a1.2.1 with ⟨_, _, y3, y4⟩ | ⟨y1, _⟩
            · rw [z', e5, y4] at e2; cases e2
            · rw [z', e5, y1] at e2; cases e2
          · have := lt e2; omega
  · intro e
    by_cases zj : j = i
    · subst zj
      have zk : ¬ k = j := fun e => hjk e.symm
      simp only [if_true, zk, if_false] at e ⊢
      rcases b5 with ⟨e5, _⟩ | ⟨e5, _⟩
      · rw [e5] at e ⊢; exact (h2 j k hj hk' hjk).2 e
      · have := iv6 _ (ldd k hk'); omega
    · by_cases zk : k = i
      · subst zk
        simp only [if_true, zj, if_false] at e ⊢
        rcases b5 with ⟨e5, _⟩ | ⟨e5, _⟩
        · rw [e5] at e; exact (h2 j k hj hk' hjk).2 e
        · have := iv6 _ (ldd j hj); omega
      · simp only [zj, zk, if_false] at e ⊢
        exact (h2 j k hj hk' hjk).2 e
  · show 4 * (if j = i then r i + (σ'.2.2.2 - σ.2.2.2) else r j) ≤ 13 * (if j = i then cap' else c j)
    by_cases z : j = i
    · rw [if_pos z, if_pos z]
      rcases b5 with ⟨_, e, e2⟩ | ⟨_, e, e2, e3, e4⟩
      · rw [e2]; omega
      · rw [e4]
        dsimp only
        by_cases z0 : c i = 0
        · have := e2 z0; omega
        · have q := e3 (by omega)
          have c10 : 10 ≤ c i := by
            rcases a1.2.1 with ⟨_, y, _⟩ | ⟨_, _, y⟩
            · omega
            · exact y
          omega
    · rw [if_neg z, if_neg z]
      exact h3r j hj
  · rcases (by omega : i = 0 ∨ i = 1 ∨ i = 2 ∨ i = 3) with z | z | z | z <;> subst z <;> simp <;> omega
  · show (if i = i then g' else ct i) j = _
    rw [if_pos rfl]; exact b2 j hj
  · show (if i = i then g' else ct i) (ln i) = _
    rw [if_pos rfl]; exact b3
  · refine ⟨fun x cc e q => ?_, fun x fs e => ⟨fs, ?_, rfl, fun _ _ _ => rfl⟩, fun x fs e => ⟨fs, ?_, rfl, fun _ _ => rfl⟩, nx⟩
    · match cc, e, q with
      | .inr ob, e, q =>
        refine ⟨?_, q⟩
        rw [b4 x (fun z => ?_) (fun z => ?_)]
        · exact e
        · rw [z, a1.1] at e
          injection e with e
          injection e with e
          rw [← e] at q
          exact q.2 rfl i hi z
        · rcases hdd with w | w
          · have := lt e; omega
          · obtain ⟨i', mc', m', hi', w⟩ := w
            rcases b5 with ⟨e5, _⟩ | ⟨e5, _⟩
            · rcases a1.2.1 with ⟨_, _, y3, y4⟩ | ⟨y1, _⟩
              · rw [z, e5, y4] at e; cases e
              · rw [z, e5, y1] at e; cases e
            · have := lt e; omega
      | .inl y, e, q =>
        have xd : x ≠ d' := fun z => by
          rcases hdd with w | w
          · have := lt e; omega
          · rw [z] at q; exact q.2.1 w
        refine ⟨?_, q.1, fun w => ?_, fun w => q.2.2 (tm' x w)⟩
        · rw [b4 x (fun z => by rw [z, a1.1] at e; cases e) xd]; exact e
        · rcases ld' x w with w | w
          · exact q.2.1 w
          · exact xd w
    · rw [b4 x (fun z => by rw [z, a1.1] at e; cases e) (fun z => by
        rcases b5 with ⟨e5, _⟩ | ⟨e5, _⟩
        · rcases a1.2.1 with ⟨_, _, y3, y4⟩ | ⟨y1, _⟩
          · rw [z, e5, y4] at e; cases e
          · rw [z, e5, y1] at e; cases e
        · have := lt e; omega)]
      exact e
    · rw [b4 x (fun z => by rw [z, a1.1] at e; cases e) (fun z => by
        rcases b5 with ⟨e5, _⟩ | ⟨e5, _⟩
        · rcases a1.2.1 with ⟨_, _, y3, y4⟩ | ⟨y1, _⟩
          · rw [z, e5, y4] at e; cases e
          · rw [z, e5, y1] at e; cases e
        · have := lt e; omega)]
      exact e
  · rcases b5 with ⟨_, e, e2⟩ | ⟨_, e, e2, e3, e4⟩
    · exact ⟨by omega, by rw [e2]; omega, by rw [e2]; omega⟩
    · by_cases z0 : c i = 0
      · have := e2 z0
        exact ⟨by omega, by rw [e4]; dsimp only; omega, by rw [e4]; dsimp only; omega⟩
      · have q := e3 (by omega)
        have c10 : 10 ≤ c i := by
          rcases a1.2.1 with ⟨_, y, _⟩ | ⟨_, _, y⟩
          · omega
          · exact y
        exact ⟨by omega, by rw [e4]; dsimp only; omega, by rw [e4]; dsimp only; omega⟩
  · have xd : x ≠ d' := fun z => by
      rcases hdd with w | w
      · have := lt e; omega
      · rw [z] at hd'; exact hd' w
    exact ⟨by rw [b4 x (hn' i hi) xd]; exact e, fun w => (ld' x w).elim hd' xd⟩
  · rw [b4 x (fun z => by rw [z, a1.1] at e; cases e) (fun z => ?_)]
    · exact e
    · rcases b5 with ⟨e5, e6, -⟩ | ⟨e5, -⟩
      · rcases a1.2.1 with ⟨x1, x2, _, _⟩ | ⟨x1, _⟩
        · rcases b1.2.1 with ⟨w, _⟩ | ⟨_, w2, w3⟩
          · omega
          · omega
        · rw [z, e5, x1] at e; cases e
      · omega
  · rw [← b4 x (fun z => by rw [z, b1.1] at e; cases e) (fun z => by
      rcases b1.2.1 with ⟨_, _, w, _⟩ | ⟨w, _⟩
      · rw [z, w, kne] at e; cases e
      · rw [z, w] at e; cases e)]
    exact e
end LST
