/-! the class: a heap of cells by address, as a plain state; how it stands in the machine -/
/-- a cell: an array by its elements' type, or an object by its number among vwCl and its fields -/
abbrev oC : Type := (FieldType × vp_A) ⊕ (Nat × List Value)
/-- cells by address, the next address, how many cells and places were made -/
abbrev oSt : Type := (Nat → Option oC) × Nat × Nat × Nat
def oE (tys : List (ClassId × FieldType)) (c : oC) (e : va_E) : Prop := match c, e with
  | .inl x, .inl y => y.2 = x.2 ∧ ∃ t : Nat, tys[t]? = some (y.1, x.1)
  | .inr o, .inr o' => o' = o
  | _, _ => False
def oRep (ws : va_W) (tys : List (ClassId × FieldType)) (h : Nat → Option oC) : Prop := (∀ (a : Nat) (c : oC), h a = some c → ∃ (k : Nat) (e : va_E), ws[k]? = some (a, e) ∧ oE tys c e) ∧ (∀ (k a : Nat) (e : va_E), ws[k]? = some (a, e) → ∃ c : oC, h a = some c ∧ oE tys c e)
/-- the plain state stands in the machine -/
def oR (dC : Nat → ClassId) (dI : Nat → Nat → Nat) (A : Nat → Prop) (s : State) (σ : oSt) (H : Heap) : Prop := ∃ (ws : va_W) (tys : List (ClassId × FieldType)), va_P (dC, dI) vwCl ws H ∧ va_D A ws ∧ va_K (dC, dI) vwCl tys s ∧ oRep ws tys σ.1
def oput (σ : oSt) (a : Nat) (c : oC) : oSt := (fun x => if x = a then some c else σ.1 x, σ.2)
def onew (σ : oSt) (c : oC) (n : Nat) : oSt := (fun x => if x = σ.2.1 then some c else σ.1 x, σ.2.1 + 1, σ.2.2.1 + 1, σ.2.2.2 + n)
theorem oE_o {tys : List (ClassId × FieldType)} {o : Nat × List Value} {e : va_E} (h : oE tys (.inr o) e) : e = .inr o := by
  cases e with
  | inl y => exact h.elim
  | inr o' => rw [show o' = o from h]
theorem oE_a {tys : List (ClassId × FieldType)} {x : FieldType × vp_A} {e : va_E} (h : oE tys (.inl x) e) : ∃ (cA : ClassId) (t : Nat), e = .inl (cA, x.2) ∧ tys[t]? = some (cA, x.1) := by
  cases e with
  | inl y =>
    obtain ⟨h1, t, h2⟩ := h
    exact ⟨y.1, t, by rw [← h1], h2⟩
  | inr o' => exact h.elim
theorem oRep.o {ws : va_W} {tys : List (ClassId × FieldType)} {h : Nat → Option oC} (r : oRep ws tys h) {a : Nat} {o : Nat × List Value} (e : h a = some (.inr o)) : ∃ k : Nat, ws[k]? = some (a, .inr o) := by
  obtain ⟨k, x, h1, h2⟩ := r.1 a _ e
  rw [oE_o h2] at h1
  exact ⟨k, h1⟩
theorem oRep.a {ws : va_W} {tys : List (ClassId × FieldType)} {h : Nat → Option oC} (r : oRep ws tys h) {a : Nat} {x : FieldType × vp_A} (e : h a = some (.inl x)) : ∃ (k : Nat) (cA : ClassId) (t : Nat), ws[k]? = some (a, .inl (cA, x.2)) ∧ tys[t]? = some (cA, x.1) := by
  obtain ⟨k, y, h1, h2⟩ := r.1 a _ e
  obtain ⟨cA, t, h3, h4⟩ := oE_a h2
  rw [h3] at h1
  exact ⟨k, cA, t, h1, h4⟩
theorem oRep.set {A : Nat → Prop} {ws : va_W} {tys : List (ClassId × FieldType)} {h : Nat → Option oC} (r : oRep ws tys h) (hD : va_D A ws) {k a : Nat} {e e' : va_E} {c' : oC} (hk : ws[k]? = some (a, e)) (he : oE tys c' e') : oRep (ws.set k (a, e')) tys (fun x => if x = a then some c' else h x) := by
  have hl : k < ws.length := (List.getElem?_eq_some_iff.mp hk).1
  refine ⟨fun b c hb => ?_, fun i b x hi => ?_⟩
  · by_cases hba : b = a
    · subst hba
      have hb := Option.some.inj (show some _ = some _ by simpa using hb)
      subst hb
      exact ⟨k, e', by rw [List.getElem?_set_self hl], he⟩
    · have hb : h b = some c := by simpa [hba] using hb
      obtain ⟨i, x, h1, h2⟩ := r.1 b c hb
      have hik : k ≠ i := fun z => by
        subst z
        rw [hk] at h1
        cases h1
        exact hba rfl
      exact ⟨i, x, by rw [List.getElem?_set_ne hik]; exact h1, h2⟩
  · by_cases hik : k = i
    · subst hik
      rw [List.getElem?_set_self hl] at hi
      cases hi
      exact ⟨c', by simp, he⟩
    · rw [List.getElem?_set_ne hik] at hi
      obtain ⟨c, h1, h2⟩ := r.2 i b x hi
      have hba : b ≠ a := fun z => by
        subst z
        exact hik (hD.1 k i _ _ hk hi rfl)
      exact ⟨c, by simpa [hba] using h1, h2⟩
theorem oRep.push {ws : va_W} {tys ty2 : List (ClassId × FieldType)} {h : Nat → Option oC} (r : oRep ws tys h) {q : Nat} {e : va_E} {c : oC} (hq : h q = none) (he : oE (tys ++ ty2) c e) : oRep (ws ++ [(q, e)]) (tys ++ ty2) (fun x => if x = q then some c else h x) := by
  have up : ∀ (c : oC) (e : va_E), oE tys c e → oE (tys ++ ty2) c e := fun c e h => by
    cases c with
    | inl x =>
      obtain ⟨cA, t, h3, h4⟩ := oE_a h
      subst h3
      exact ⟨rfl, t, by rw [List.getElem?_append_left (List.getElem?_eq_some_iff.mp h4).1]; exact h4⟩
    | inr o =>
      rw [oE_o h]
      rfl
  refine ⟨fun b c' hb => ?_, fun i b x hi => ?_⟩
  · by_cases hba : b = q
    · subst hba
      have hb := Option.some.inj (show some _ = some _ by simpa using hb)
      subst hb
      exact ⟨ws.length, e, by simp, he⟩
    · have hb : h b = some c' := by simpa [hba] using hb
      obtain ⟨i, x, h1, h2⟩ := r.1 b c' hb
      exact ⟨i, x, by rw [List.getElem?_append_left (List.getElem?_eq_some_iff.mp h1).1]; exact h1, up _ _ h2⟩
  · by_cases hl : i < ws.length
    · rw [List.getElem?_append_left hl] at hi
      obtain ⟨c', h1, h2⟩ := r.2 i b x hi
      have hba : b ≠ q := fun z => by
        subst z
        rw [hq] at h1
        cases h1
      exact ⟨c', by simpa [hba] using h1, up _ _ h2⟩
    · rw [List.getElem?_append_right (by omega)] at hi
      have hz : i - ws.length < 1 := (List.getElem?_eq_some_iff.mp hi).1
      rw [show i - ws.length = 0 by omega] at hi
      cases hi
      exact ⟨c, by simp, he⟩
theorem oR.moved {dC : Nat → ClassId} {dI : Nat → Nat → Nat} {A : Nat → Prop} {s U : State} {σ : oSt} {H : Heap} (h : oR dC dI A s σ H) (hv : s.vm.Alike U.vm) : oR dC dI A U σ H := by
  obtain ⟨ws, tys, h1, h2, h3, h4⟩ := h
  exact ⟨ws, tys, h1, h2, va_K.moved hv h3, h4⟩
theorem oR.weaken {dC : Nat → ClassId} {dI : Nat → Nat → Nat} {A B : Nat → Prop} {s : State} {σ : oSt} {H : Heap} (h : oR dC dI A s σ H) (hB : ∀ a c, σ.1 a = some c → B a) : oR dC dI B s σ H := by
  obtain ⟨ws, tys, h1, h2, h3, h4⟩ := h
  refine ⟨ws, tys, h1, ⟨h2.1, fun k q hk => ?_⟩, h3, h4⟩
  obtain ⟨c, h6, -⟩ := h4.2 k q.1 q.2 hk
  exact hB q.1 c h6
theorem oR.in {dC : Nat → ClassId} {dI : Nat → Nat → Nat} {A : Nat → Prop} {s : State} {σ : oSt} {H : Heap} (h : oR dC dI A s σ H) {a : Nat} {c : oC} (e : σ.1 a = some c) : A a := by
  obtain ⟨ws, tys, h1, h2, h3, h4⟩ := h
  obtain ⟨k, x, h6, -⟩ := h4.1 a c e
  exact h2.2 k _ h6
theorem oR.lt {dC : Nat → ClassId} {dI : Nat → Nat → Nat} {A : Nat → Prop} {s : State} {σ : oSt} {H : Heap} (h : oR dC dI A s σ H) {a : Nat} {c : oC} (e : σ.1 a = some c) : a < H.size := by
  obtain ⟨ws, tys, h1, h2, h3, h4⟩ := h
  obtain ⟨k, x, h6, -⟩ := h4.1 a c e
  exact (h1 k _ h6).lt
theorem oR.none {dC : Nat → ClassId} {dI : Nat → Nat → Nat} {A : Nat → Prop} {s : State} {σ : oSt} {H : Heap} (h : oR dC dI A s σ H) : σ.1 H.size = none := by
  cases e : σ.1 H.size with
  | none => rfl
  | some c => exact absurd (h.lt e) (Nat.lt_irrefl _)
/-- what a method may touch: the cells that were there, and new ones -/
def oA (σ0 : oSt) : Nat → Prop := fun q => (σ0.1 q).isSome = true ∨ σ0.2.1 ≤ q
def oLc (σ : oSt) (H : Heap) (locs : List Loc) : Prop := ∀ x ∈ locs, (σ.1 x.base).isSome = true ∨ H.size ≤ x.base
def oB (σ : oSt) (H : Heap) : Nat → Prop := fun q => (σ.1 q).isSome = true ∨ H.size ≤ q
/-- sizes: the next address is the machine's, and so are the counts -/
def oSz (s : State) (σ0 σ : oSt) (H : Heap) : Prop := σ0.2.1 = s.heap.size ∧ σ0.2.2.1 ≤ σ.2.2.1 ∧ σ0.2.2.2 ≤ σ.2.2.2 ∧ σ.2.1 = s.heap.size + (σ.2.2.1 - σ0.2.2.1) ∧ σ.2.1 ≤ H.size
theorem oB_S {σ : oSt} {H : Heap} {locs : List Loc} (h : oLc σ H locs) : va_S (oB σ H) H H locs := ⟨Nat.le_refl _, fun _ _ _ => rfl, fun x hx => h x hx⟩
theorem oB_D {dC : Nat → ClassId} {dI : Nat → Nat → Nat} {s : State} {A : Nat → Prop} {σ : oSt} {H : Heap} (h : oR dC dI A s σ H) : oR dC dI (oB σ H) s σ H := h.weaken (fun a c e => Or.inl (by rw [e]; rfl))
theorem oB_up {s : State} {σ0 σ : oSt} {H H1 : Heap} {locs locs1 : List Loc} (hn : σ0.2.1 = s.heap.size) (hA : ∀ q, (σ.1 q).isSome = true → oA σ0 q) (hS : va_S (oA σ0) s.heap H locs) (h1 : va_S (oB σ H) H H1 locs1) : va_S (oA σ0) s.heap H1 locs1 := by
  refine ⟨Nat.le_trans hS.1 h1.1, fun q hq hnA => ?_, fun x hx => ?_⟩
  · rw [h1.2.1 q (Nat.lt_of_lt_of_le hq hS.1) (fun hb => ?_)]
    · exact hS.2.1 q hq hnA
    · rcases hb with hb | hb
      · exact hnA (hA q hb)
      · exact absurd (Nat.lt_of_lt_of_le hq hS.1) (Nat.not_lt.mpr hb)
  · rcases h1.2.2 x hx with hb | hb
    · exact hA _ hb
    · exact Or.inr (by rw [hn]; exact Nat.le_trans hS.1 hb)
section OROW
variable {p : Program} {l : Launch} {e : Env} {R : Room} {s : State} {m : MethodId} {args : Array Value} {below : List Frame} {meth : Method} {c : Code} {H : Heap} {locs : List Loc} {cells slots : Nat} {Q : State → Prop} {g : JFrame}
/-- the heap has no more cells than were counted -/
theorem oW_size (k : H.size ≤ s.heap.size + cells → W p l e R s m args below meth c H locs cells slots Q g) : W p l e R s m args below meth c H locs cells slots Q g := fun T hT X => k (by rw [← hT]; exact X.same.2.2.1) T hT X
end OROW
