/-! the reference's richOf(): what holds at each of its steps -/
/-- the rows of what must be SO: an index takes two -/
def gN2 (x : gNd) : List (gNd × Nat) := if x.2.2.1 = 3 then [(x, 2), (x, 3)] else [(x, x.2.2.1)]
/-- numbers of told NAMES, and their types -/
def uNs (Γ : uGm) (V : zSt) (L : List Nat) (tN : Nat → tY) : Prop := uNu Γ V L ∧ ∀ u, u ∈ L → uNm Γ (.inl u) ∧ Γ.2.2.2.2.1 (.inl u) = tN u
/-- a NAME that is not told yet has this type -/
def gNtd : gTy := (.inl (.leaf, []), [])
/-- told NAMES have their types; those that were told or made know what they are -/
def uTd (Γ : uGm) (tN : Nat → tY) (env : List Nat) (v : Nat → Nat) (τ : zSt) (q : Nat → gTy) : Prop := (∀ u, (u ∈ env ∨ (uNm Γ (.inl u) ∧ q u ≠ gNtd)) → ∃ t, τ.2.2.1 74 (Γ.1 (.inl u)) = nI t ∧ uTy Γ v τ (tN u) t (q u)) ∧ ∀ x, uNm Γ x → ((∃ u, x = .inl u ∧ q u ≠ gNtd) ∨ (700 ≤ Γ.1 x ∧ Γ.1 x < 700 + v 100)) → uIs Γ τ x
def uFl (CD : tT → Nat → Prop) (Γ : uGm) (v : Nat → Nat) (τ : zSt) (l : List gFit) : Prop := v 116 = l.length ∧ ∀ i x, l[i]? = some x → uFt CD Γ v τ i x ∧ uIq Γ τ x.1
/-- a row of what must be SO -/
def uNr (CD : tT → Nat → Prop) (pp : Nat → Int32) (V : zSt) (S P : Nat) (Γ : uGm) (v : Nat → Nat) (τ : zSt) (i : Nat) (x : gNd × Nat) : Prop := i < v 123 ∧ τ.2.2.1 79 i = nI x.2 ∧ (if x.2 = 0 then ∃ m, τ.2.2.1 80 i = nI m ∧ m < 2100 ∧ CD x.1.2.2.2.1 m else ∃ y w, τ.2.2.1 80 i = nI y ∧ rSm pp V S P y (w, x.1.2.2.2.2.1)) ∧ τ.2.2.1 81 i = (if x.2 = 3 then nI (Γ.1 (.inl x.1.2.2.2.2.2.2)) else -1) ∧ uSc 200 CD Γ v τ x.1.1 (τ.2.2.1 82 i) (τ.2.2.1 83 i) ∧ τ.2.2.1 84 i = pp x.1.2.1
def uNl (CD : tT → Nat → Prop) (pp : Nat → Int32) (V : zSt) (S P : Nat) (Γ : uGm) (v : Nat → Nat) (τ : zSt) (l : List gNd) : Prop := v 123 = (l.flatMap gN2).length ∧ ∀ i x, (l.flatMap gN2)[i]? = some x → uNr CD pp V S P Γ v τ i x ∧ uIq Γ τ x.1.1
/-- all that holds -/
def uAl (CD : tT → Nat → Prop) (pp : Nat → Int32) (V : zSt) (S P : Nat) (Γ : uGm) (tN : Nat → tY) (env : List Nat) (v : Nat → Nat) (τ : zSt) (s : gSt) : Prop := uVn τ v ∧ uTf V τ ∧ uTd Γ tN env v τ s.1 ∧ uFl CD Γ v τ s.2.1 ∧ uNl CD pp V S P Γ v τ s.2.2
section UAL
variable {ks : Nat → Nat} {qs : List Nat} {T n h0 S P : Nat} {L env : List Nat} {pp : Nat → Int32} {Γ : uGm} {tN : Nat → tY} {v v' : Nat → Nat} {V τ τ' : zSt} {CD : tT → Nat → Prop} {s : gSt}
theorem uTd.upT {q : Nat → gTy} (h : uTd Γ tN env v τ q) (hv : ∀ k, v k ≤ v' k) (f : uFr v τ τ') (k : uKr Γ τ τ') (e1 : uNw Γ (v 100) (v' 100) τ') : uTd Γ tN env v' τ' q := by
  refine ⟨fun u hu => ?_, fun x hx hw => ?_⟩
  · obtain ⟨t, a1, a2⟩ := h.1 u hu
    exact ⟨t, by rw [k.1]; exact a1, uTy.up hv f _ t _ a2⟩
  · rcases hw with hw | ⟨h1, h2⟩
    · exact k.2.2 x hx (h.2 x hx (Or.inl hw))
    · by_cases c : Γ.1 x < 700 + v 100
      · exact k.2.2 x hx (h.2 x hx (Or.inr ⟨h1, c⟩))
      · exact e1 x hx (by omega) h2
theorem uTd.up {q : Nat → gTy} (h : uTd Γ tN env v τ q) (hv : ∀ k, v k ≤ v' k) (f : uFr v τ τ') (k : uKr Γ τ τ') (e1 : v' 100 = v 100 := by rfl) : uTd Γ tN env v' τ' q := h.upT hv f k (fun x _ h1 h2 => by rw [e1] at h2; omega)
theorem uFl.up {l : List gFit} (h : uFl CD Γ v τ l) (hv : ∀ k, v k ≤ v' k) (e : v' 116 = v 116) (f : uFr v τ τ') (k : uIk Γ τ τ') : uFl CD Γ v' τ' l := ⟨e.trans h.1, fun i x hx => ⟨(h.2 i x hx).1.up hv f, (h.2 i x hx).2.ik k⟩⟩
theorem uNr.up {i : Nat} {x : gNd × Nat} (h : uNr CD pp V S P Γ v τ i x) (hv : ∀ k, v k ≤ v' k) (f : uFr v τ τ') : uNr CD pp V S P Γ v' τ' i x := by
  obtain ⟨h1, h2, h3, h4, h5, h6⟩ := h
  have e : ∀ k, k = 79 ∨ k = 80 ∨ k = 81 ∨ k = 82 ∨ k = 83 ∨ k = 84 → τ'.2.2.1 k i = τ.2.2.1 k i := fun k hk => by
    rcases hk with rfl | rfl | rfl | rfl | rfl | rfl <;> exact f.r (c := 123) rfl (by unfold uAy; omega) h1
  refine ⟨Nat.lt_of_lt_of_le h1 (hv _), by rw [e 79 (by omega)]; exact h2, by rw [e 80 (by omega)]; exact h3, by rw [e 81 (by omega)]; exact h4, ?_, by rw [e 84 (by omega)]; exact h6⟩
  rw [e 82 (by omega), e 83 (by omega)]
  exact h5.up hv f
theorem uNl.up {l : List gNd} (h : uNl CD pp V S P Γ v τ l) (hv : ∀ k, v k ≤ v' k) (e : v' 123 = v 123) (f : uFr v τ τ') (k : uIk Γ τ τ') : uNl CD pp V S P Γ v' τ' l := ⟨e.trans h.1, fun i x hx => ⟨(h.2 i x hx).1.up hv f, (h.2 i x hx).2.ik k⟩⟩
/-- a step that adds nothing to the lists -/
theorem uAl.up (h : uAl CD pp V S P Γ tN env v τ s) (hv : ∀ k, v k ≤ v' k) (e6 : v' 116 = v 116) (e3 : v' 123 = v 123) (hV : uVn τ' v') (f : uFr v τ τ') (k : uKr Γ τ τ') (e1 : v' 100 = v 100 := by rfl) : uAl CD pp V S P Γ tN env v' τ' s := ⟨hV, h.2.1.fr f, h.2.2.1.up hv f k e1, h.2.2.2.1.up hv e6 f k.2, h.2.2.2.2.up hv e3 f k.2⟩
/-- the same where NAMES are made -/
theorem uAl.upT (h : uAl CD pp V S P Γ tN env v τ s) (hv : ∀ k, v k ≤ v' k) (e6 : v' 116 = v 116) (e3 : v' 123 = v 123) (hV : uVn τ' v') (f : uFr v τ τ') (k : uKr Γ τ τ') (e1 : uNw Γ (v 100) (v' 100) τ') : uAl CD pp V S P Γ tN env v' τ' s := ⟨hV, h.2.1.fr f, h.2.2.1.upT hv f k e1, h.2.2.2.1.up hv e6 f k.2, h.2.2.2.2.up hv e3 f k.2⟩
theorem uAl.ev {env' : List Nat} (h : uAl CD pp V S P Γ tN env v τ s) (he : ∀ u, u ∈ env' → u ∈ env) : uAl CD pp V S P Γ tN env' v τ s := ⟨h.1, h.2.1, ⟨fun u hu => h.2.2.1.1 u (hu.imp_left (he u)), h.2.2.1.2⟩, h.2.2.2⟩
/-- mustFit() -/
theorem r_fit {y : tY} {a b N : Nat} {A B : gTy} {sc : List gEn} {e g : Int32} (h : uAl CD pp V S P Γ tN env v τ s) (hA : uTy Γ v τ y a A) (hB : uTy Γ v τ y b B) (hS : uSc N CD Γ v τ sc e g) (hq : uIq Γ τ sc) (hN : N + yDp y ≤ 200) (hl : ∀ k, k ∈ uCt → v k + fitC y k ≤ uLm k) (hn : 2 * yDp y + 3 ≤ n) : ∃ τ' v', zF h0 qs ks T n 78 [.ref h0, .int (nI a), .int (nI b), .int e, .int g] τ = some (none, τ') ∧ uAl CD pp V S P Γ tN env v' τ' (gFt (gFi y A B sc) s) ∧ uGe v v' (fitC y) ∧ uFr v τ τ' ∧ uKr Γ τ τ' := by
  obtain ⟨τ', v', a1, a2, a3, a4, a5, a6, a7, a8, a9⟩ := r_mustFit (h0 := h0) (qs := qs) (ks := ks) (T := T) (CD := CD) y a b A B sc e g N n v τ h.1 hA hB hS hq hN hl hn
  have le : ∀ k, v k ≤ v' k := fun k => (a3 k).1
  have e123 : v' 123 = v 123 := by
    have := a3 123
    have z : fitC y 123 = 0 := rfl
    omega
  have e100 : v' 100 = v 100 := by
    have := a3 100
    have z : fitC y 100 = 0 := rfl
    omega
  have kr : uKr Γ τ τ' := ⟨a5.1 74 (by unfold uAy; omega) (by decide) (by decide), a6⟩
  refine ⟨τ', v', a1, ⟨a2, h.2.1.fr a4, h.2.2.1.up le a4 kr e100, ⟨?_, fun i x hx => ?_⟩, h.2.2.2.2.up le e123 a4 a6⟩, a3, a4, kr⟩
  · show v' 116 = (s.2.1 ++ gFi y A B sc).length
    rw [List.length_append, a7, h.2.2.2.1.1]
  · have hx : (s.2.1 ++ gFi y A B sc)[i]? = some x := hx
    have l1 := h.2.2.2.1.1
    rcases Nat.lt_or_ge i s.2.1.length with c | c
    · rw [List.getElem?_append_left c] at hx
      obtain ⟨w1, w2⟩ := h.2.2.2.1.2 i x hx
      exact ⟨w1.up le a4, w2.ik a6⟩
    · rw [List.getElem?_append_right c] at hx
      have := a9 _ x hx
      rw [l1, show s.2.1.length + (i - s.2.1.length) = i by omega] at this
      exact this
/-- a NAME is told: its type, knows() -/
theorem r_tel {u t N : Nat} {A : gTy} {sc : List gEn} {e g : Int32} (hΓ : uNs Γ V L tN) (hE : ∀ w, w ∈ env → w ∈ L) (hu : u ∈ L) (h : uAl CD pp V S P Γ tN env v τ s) (hA : uTy Γ v τ (tN u) t A) (hS : uSc N CD Γ v τ sc e g) (hq : uIq Γ τ sc) (h109 : v 109 < 12000) : ∃ τ', zF h0 qs ks T (n + 1) 73 [.ref h0, .int e, .int (nI (Γ.1 (.inl u))), .int (nI t)] (zA τ 74 (upd (τ.2.2.1 74) (Γ.1 (.inl u)) (nI t))) = some (some (.int (nI (v 109))), τ') ∧ uAl CD pp V S P Γ tN (env ++ [u]) (uUp v 109) τ' (gTn u A s) ∧ uSc (N + 1) CD Γ (uUp v 109) τ' (gNm (.inl u) A sc) (nI (v 109)) g ∧ uIq Γ τ' (gNm (.inl u) A sc) ∧ uFr v τ τ' ∧ uIk Γ τ τ' := by
  obtain ⟨⟨n1, n2⟩, n3⟩ := (⟨hΓ.1 u hu, hΓ.2 u hu⟩ : (Γ.1 (.inl u) = nuO (V.2.2.1 32) u ∧ Γ.1 (.inl u) < 700) ∧ uNm Γ (.inl u) ∧ Γ.2.2.2.2.1 (.inl u) = tN u)
  have V0 : uVn (zA τ 74 (upd (τ.2.2.1 74) (Γ.1 (.inl u)) (nI t))) v := h.1
  have f0 : uFr v τ (zA τ 74 (upd (τ.2.2.1 74) (Γ.1 (.inl u)) (nI t))) := ⟨fun _ _ _ _ => rfl, fun _ _ => rfl, fun k hk i _ => by
    show (if k = 74 then _ else τ.2.2.1 k) i = _
    rw [if_neg (fun e => hk (by unfold uAy; omega))], fun _ _ _ => rfl⟩
  have i0 : uIk Γ τ (zA τ 74 (upd (τ.2.2.1 74) (Γ.1 (.inl u)) (nI t))) := ⟨rfl, fun x _ w => w⟩
  have e42 : (zA τ 74 (upd (τ.2.2.1 74) (Γ.1 (.inl u)) (nI t))).2.2.1 42 = τ.2.2.1 42 := rfl
  obtain ⟨m1, m2, m3⟩ := hA.ms
  obtain ⟨τ', a1, a2, a3, ⟨a4, a5, a6⟩, ⟨a7, a8⟩, a9, a10, a11, a12⟩ := r_knows (h0 := h0) (qs := qs) (ks := ks) (T := T) (n := n) (x := Γ.1 (.inl u)) (t := t) (e := e) V0 h109 (by omega) m1
  have hy : ∃ k l r, tN u = .inner k () () l r ∧ τ.2.2.1 42 t = (if k = 0 then 4 else nI (uK k)) ∧ k ≤ 4 := by
    match ey : tN u, hA with
    | .leaf, hA => exact False.elim hA
    | .inner k _ _ l r, hA => exact ⟨k, l, r, rfl, hA.k.2⟩
  obtain ⟨i1, i2⟩ := uIk.kn (τ := zA τ 74 (upd (τ.2.2.1 74) (Γ.1 (.inl u)) (nI t))) (τ' := τ') n3.1 n3.2 hy a7 a8
  have le := uUp_le v 109
  have fr : uFr v τ τ' := f0.tr a3 (fun _ => Nat.le_refl _)
  have ik : uIk Γ τ τ' := i0.tr i1
  have hA' := uTy.up le fr _ t _ hA
  have hS' := (hS.up le fr).kn (i := v 109) (x := .inl u) (t := t) hA' (by rw [uUp_at]; omega) a4 a5 a6
  refine ⟨τ', a1, ⟨a2, h.2.1.fr fr, ⟨fun w hw => ?_, fun x hx hw => ?_⟩, h.2.2.2.1.up le (uUp_ne v (by decide)) fr ik, h.2.2.2.2.up le (uUp_ne v (by decide)) fr ik⟩, hS', ?_, fr, ik⟩
  · have e74 : τ'.2.2.1 74 = upd (τ.2.2.1 74) (Γ.1 (.inl u)) (nI t) := a9 74 (by unfold uAy; omega) (by decide) (by decide)
    show ∃ t', τ'.2.2.1 74 (Γ.1 (.inl w)) = nI t' ∧ uTy Γ (uUp v 109) τ' (tN w) t' (if w = u then A else s.1 w)
    rw [e74]
    by_cases c : w = u
    · rw [c, if_pos rfl]
      exact ⟨t, if_pos rfl, hA'⟩
    · rw [if_neg c]
      have hw' : w ∈ env ∨ (uNm Γ (.inl w) ∧ s.1 w ≠ gNtd) := by
        rcases hw with hw | ⟨z1, z2⟩
        · rcases List.mem_append.mp hw with z | z
          · exact Or.inl z
          · exact absurd (List.mem_singleton.mp z) c
        · have z2 : (if w = u then A else s.1 w) ≠ gNtd := z2
          rw [if_neg c] at z2
          exact Or.inr ⟨z1, z2⟩
      obtain ⟨t', b1, b2⟩ := h.2.2.1.1 w hw'
      have nw : uNm Γ (.inl w) := by
        rcases hw' with z | z
        · exact (hΓ.2 w (hE w z)).1
        · exact z.1
      refine ⟨t', (if_neg (fun z => c ?_)).trans b1, uTy.up le fr _ t' _ b2⟩
      have := n3.1.2
      rw [← z, nw.2] at this
      injection this
  · rcases hw with ⟨w, e1, e2⟩ | hw
    · by_cases c : w = u
      · rw [e1, c]; exact i2
      · have e2 : (if w = u then A else s.1 w) ≠ gNtd := e2
        rw [if_neg c] at e2
        exact ik.2 x hx (h.2.2.1.2 x hx (Or.inl ⟨w, e1, e2⟩))
    · exact ik.2 x hx (h.2.2.1.2 x hx (Or.inr ⟨hw.1, hw.2⟩))
  · intro x hx
    rw [scN_nm] at hx
    split at hx
    · rcases List.mem_cons.mp hx with z | z
      · subst z
        exact ⟨n3.1, i2⟩
      · exact (hq.ik ik) x z
    · exact (hq.ik ik) x hx
end UAL
