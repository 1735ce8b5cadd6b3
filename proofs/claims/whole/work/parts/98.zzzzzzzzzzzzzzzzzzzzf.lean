/-! the class's gather(): terms of NAMES, instance() -/
/-- the QUALS in the parser's rows -/
def qRw (st : Nat) (l : Nat → Nat) (b0 : Nat) (nq : tQ → Int) (xs : List tQ) (Q : Nat → Prop) (pg : Nat) (σ : oSt) : Prop := ∃ pf r4 r5 r6 r7 f4 f5 f6 f7, σ.1 pg = some (.inr (9, pf)) ∧ (pf[4]? = some (.ref r4) ∧ pf[5]? = some (.ref r5) ∧ pf[6]? = some (.ref r6) ∧ pf[7]? = some (.ref r7) ∧ pf[8]? = some (.int (nI xs.length))) ∧ (σ.1 r4 = some (.inl (.int, 6, .inl f4)) ∧ σ.1 r5 = some (.inl (.int, 6, .inl f5)) ∧ σ.1 r6 = some (.inl (.int, 6, .inl f6)) ∧ σ.1 r7 = some (.inl (.int, 6, .inl f7))) ∧ ((qA st l b0 σ r4 ∧ qA st l b0 σ r5 ∧ qA st l b0 σ r6 ∧ qA st l b0 σ r7) ∧ ¬ Q r4 ∧ ¬ Q r5 ∧ ¬ Q r6 ∧ ¬ Q r7) ∧ xs.length ≤ 6 ∧ ∀ (k : Nat) (x : tQ), xs[k]? = some x → f4 k = bCd x.1 ∧ f5 k = jRc x.2.1 ∧ x.2.1 ≤ 4 ∧ f6 k = zSr x.2.2 ∧ (f7 k).toInt = nq x ∧ x.1 ≤ 2
/-- terms that a NAME has made: two for its row, three each -/
def tmU (kq : Nat) (σ : oSt) (a : Nat) : Nat := match ovr (ofd σ (some a) 6 5) with
  | some (some t) => 2 + 3 * (List.range (min kq 6)).countP (fun q => ((oar σ (some t) (nI q)).getD none).isSome)
  | _ => 0
/-- terms that NAMES may make still -/
def tmP (kq : Nat) (σ : oSt) (Ls : List Nat) : Nat := (Ls.map (fun a => 2 + 3 * kq - tmU kq σ a)).sum
theorem tmU_le (kq : Nat) (σ : oSt) (a : Nat) : tmU kq σ a ≤ 2 + 3 * kq := by
  unfold tmU
  split
  · rename_i t _
    have h := List.countP_le_length (p := fun q => ((oar σ (some t) (nI q)).getD none).isSome) (l := List.range (min kq 6))
    rw [List.length_range] at h
    omega
  · omega
theorem ofd_cgA {σ σ' : oSt} {a c k : Nat} (h : σ'.1 a = σ.1 a) : ofd σ' (some a) c k = ofd σ (some a) c k := by simp only [ofd, h]
theorem oar_cgA {σ σ' : oSt} {a : Nat} {i : Int32} (h : σ'.1 a = σ.1 a) : oar σ' (some a) i = oar σ (some a) i := by simp only [oar, h]
theorem ofd_eA {σ : oSt} {a ci k : Nat} {x : Option Nat} (h : ovr (ofd σ (some a) ci k) = some x) : ∃ fs, σ.1 a = some (.inr (ci, fs)) ∧ fs[k]? = some (va_rf x) := by
  simp only [ofd] at h
  split at h
  · rename_i o e
    split at h
    · rename_i c
      refine ⟨o.2, by rw [e, ← c], ?_⟩
      cases e5 : o.2[k]? with
      | none => rw [e5] at h; cases h
      | some v =>
        rw [e5] at h
        unfold ovr at h
        split at h
        · rename_i w
          injection w with w
          injection h with h
          rw [w, ← h]
          rfl
        · rename_i w
          injection w with w
          injection h with h
          rw [w, ← h]
          rfl
        · cases h
    · cases h
  · cases h
theorem tmU_cg {kq : Nat} {σ σ' : oSt} {a : Nat} (h : σ'.1 a = σ.1 a) (ht : ∀ fs t, σ.1 a = some (.inr (6, fs)) → fs[5]? = some (.ref t) → σ'.1 t = σ.1 t) : tmU kq σ' a = tmU kq σ a := by
  unfold tmU
  rw [ofd_cgA h]
  cases e : ovr (ofd σ (some a) 6 5) with
  | none => rfl
  | some o =>
    cases o with
    | none => rfl
    | some t =>
      have q : ∃ fs, σ.1 a = some (.inr (6, fs)) ∧ fs[5]? = some (.ref t) := by
        obtain ⟨fs, e1, e2⟩ := ofd_eA e
        exact ⟨fs, e1, e2⟩
      obtain ⟨fs, q1, q2⟩ := q
      dsimp only
      congr 2
      refine List.countP_congr (fun x _ => ?_)
      rw [oar_cgA (ht fs t q1 q2)]
theorem tmP_cg {kq : Nat} {σ σ' : oSt} : ∀ {Ls : List Nat}, (∀ a, a ∈ Ls → tmU kq σ' a = tmU kq σ a) → tmP kq σ' Ls = tmP kq σ Ls
  | [], _ => rfl
  | a :: Ls, h => by
    have := tmP_cg (Ls := Ls) (fun b hb => h b (List.mem_cons_of_mem _ hb))
    unfold tmP at this ⊢
    rw [List.map_cons, List.sum_cons, List.map_cons, List.sum_cons, this, h a (List.mem_cons_self ..)]
theorem tmP_up {kq : Nat} {σ σ' : oSt} {a k : Nat} : ∀ {Ls : List Nat}, Ls.Nodup → a ∈ Ls → (∀ b, b ∈ Ls → b ≠ a → tmU kq σ' b = tmU kq σ b) → tmU kq σ' a = tmU kq σ a + k → tmP kq σ' Ls + k = tmP kq σ Ls
  | [], _, h, _, _ => by cases h
  | b :: Ls, hn, ha, hb, e => by
    obtain ⟨n1, n2⟩ := List.nodup_cons.mp hn
    have l1 := tmU_le kq σ' a
    by_cases c : b = a
    · subst c
      have := tmP_cg (σ := σ) (σ' := σ') (Ls := Ls) (fun d hd => hb d (List.mem_cons_of_mem _ hd) (fun z => n1 (z ▸ hd)))
      unfold tmP at this ⊢
      rw [List.map_cons, List.sum_cons, List.map_cons, List.sum_cons, this]
      omega
    · have ha' : a ∈ Ls := by
        rcases List.mem_cons.mp ha with z | z
        · exact absurd z.symm c
        · exact z
      have := tmP_up n2 ha' (fun d hd => hb d (List.mem_cons_of_mem _ hd)) e
      unfold tmP at this ⊢
      rw [List.map_cons, List.sum_cons, List.map_cons, List.sum_cons, hb b (List.mem_cons_self ..) c]
      omega
/-- **rows of terms**: each NAME its own -/
def ntI (st : Nat) (l : Nat → Nat) (b0 : Nat) (nq : tQ → Int) (xs : List tQ) (Q : Nat → Prop) (σ : oSt) : Prop := (∀ a fs, b0 ≤ a → σ.1 a = some (.inr (6, fs)) → fs.length = 8 ∧ (fs[5]? = some (va_rf none) ∨ ∃ t g, fs[5]? = some (.ref t) ∧ σ.1 t = some (.inl (.object "LiquidTongue$Sum", 6, .inr (.inr (.inr (.inr g))))) ∧ ∀ (j : Nat) (x : tQ), xs[j]? = some x → x.2.2.2.1 = true → ∀ su, g j = some su → cTq st l b0 Q σ su (some (a, if x.2.2.1 = true then -1 else 1), nq x))) ∧ ∀ a a' fs fs' t, b0 ≤ a → b0 ≤ a' → σ.1 a = some (.inr (6, fs)) → σ.1 a' = some (.inr (6, fs')) → fs[5]? = some (.ref t) → fs'[5]? = some (.ref t) → a = a'
/-- what instance() may write: a NAME's row of terms, and what lies in it -/
def tXp (σ σ' : oSt) : Prop := (∀ x k fs, σ.1 x = some (.inr (k, fs)) → k ≠ 6 → σ'.1 x = some (.inr (k, fs))) ∧ (∀ x y, σ.1 x = some (.inl y) → y.1 ≠ .object "LiquidTongue$Sum" → σ'.1 x = some (.inl y)) ∧ ∀ x, x < σ.2.1 → σ.1 x = none → σ'.1 x = none
section INS
variable {κ : oKv} {T n : Nat} {st : Nat} {l : Nat → Nat} {b0 : Nat} {nq : tQ → Int} {xs : List tQ} {Q : Nat → Prop} {σ σ' : oSt} {ch pg : Nat} {cf : List Value}
theorem tXp.rf : tXp σ σ := ⟨fun _ _ _ h _ => h, fun _ _ h _ => h, fun _ _ h => h⟩
theorem tXp.tr {a b c : oSt} (h : tXp a b) (g : tXp b c) (hn : a.2.1 ≤ b.2.1) : tXp a c := ⟨fun x k fs e h6 => g.1 x k fs (h.1 x k fs e h6) h6, fun x y e hs => g.2.1 x y (h.2.1 x y e hs) hs, fun x hx e => g.2.2 x (Nat.lt_of_lt_of_le hx hn) (h.2.2 x hx e)⟩
theorem oNl.tx {d e : Nat} (o : oNl σ σ' d e) (hfr : ∀ q, σ.2.1 ≤ q → σ.1 q = none) : tXp σ σ' := by
  have lt : ∀ {x cc}, σ.1 x = some cc → x < σ.2.1 := fun h => Nat.lt_of_not_le (fun e => by rw [hfr _ e] at h; cases h)
  exact ⟨fun x k fs h _ => by rw [o.1 x (lt h)]; exact h, fun x y h _ => by rw [o.1 x (lt h)]; exact h, fun x hx h => by rw [o.1 x hx]; exact h⟩
/-- cells are made: NAMES have the terms they had -/
theorem ntI.nw {d e : Nat} (h : ntI st l b0 nq xs Q σ) (iv : gIv st l b0 Q σ) (o : oNl σ σ' d e) (h6 : oN6 σ σ') (h8 : ∀ x fs, σ.2.1 ≤ x → σ'.1 x = some (.inr (6, fs)) → fs.length = 8 ∧ fs[5]? = some (va_rf none)) : ntI st l b0 nq xs Q σ' ∧ ∀ a, b0 ≤ a → a < σ.2.1 → tmU xs.length σ' a = tmU xs.length σ a := by
  have lt : ∀ {x cc}, σ.1 x = some cc → x < σ.2.1 := fun h => Nat.lt_of_not_le (fun e => by rw [iv.1 _ e] at h; cases h)
  have kp := iv.kp (W := fun _ => False) o h6
  refine ⟨⟨fun a fs hb e => ?_, fun a a' fs fs' t hb hb' e e' e5 e5' => ?_⟩, fun a hb ha => ?_⟩
  · by_cases c : a < σ.2.1
    · rw [o.1 a c] at e
      obtain ⟨q1, q2⟩ := h.1 a fs hb e
      refine ⟨q1, q2.imp id (fun ⟨t, g, w1, w2, w3⟩ => ⟨t, g, w1, by rw [o.1 t (lt w2)]; exact w2, fun j x hx hs su hg => (w3 j x hx hs su hg).sp kp (fun _ _ => Iff.rfl) iv.1⟩)⟩
    · obtain ⟨q1, q2⟩ := h8 a fs (by omega) e
      exact ⟨q1, Or.inl q2⟩
  · have c : a < σ.2.1 := Nat.lt_of_not_le (fun z => by rw [(h8 a fs z e).2] at e5; cases e5)
    have c' : a' < σ.2.1 := Nat.lt_of_not_le (fun z => by rw [(h8 a' fs' z e').2] at e5'; cases e5')
    rw [o.1 a c] at e
    rw [o.1 a' c'] at e'
    exact h.2 a a' fs fs' t hb hb' e e' e5 e5'
  · refine tmU_cg (o.1 a ha) (fun fs t e e5 => ?_)
    obtain ⟨-, z | ⟨t', g, w1, w2, -⟩⟩ := h.1 a fs hb e
    · rw [z] at e5; cases e5
    · rw [w1] at e5
      injection e5 with e5
      injection e5 with e5
      rw [← e5]
      exact o.1 _ (lt w2)
end INS
