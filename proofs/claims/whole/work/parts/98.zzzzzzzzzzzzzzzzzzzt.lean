/-! the class's gather(): Knowns that stand for types -/
/-- a term of the reading and one in cells: E says which cells stand for which NAMES -/
def teR (E : gN → Nat → Prop) (t : gTe) (u : kTe) : Prop := t.2 = u.2 ∧ ((t.1 = none ∧ u.1 = none) ∨ ∃ y a e, t.1 = some (y, e) ∧ u.1 = some (a, e) ∧ E y a)
/-- what stands in a NAME's place -/
def lkE (na : gN → Nat) (E : gN → Nat → Prop) (G : List (Nat × kTe)) (A2 : List (gN × gTe)) (x : gN) : Prop := match gTf A2 x with
  | none => (kFi G (na x) = none ∧ E x (na x)) ∨ ∃ a, kFi G (na x) = some (some (a, 1), 0) ∧ E x a
  | some t => ∃ u, kFi G (na x) = some u ∧ teR E t u
section LKE
variable {na na' : gN → Nat} {E E' : gN → Nat → Prop} {G : List (Nat × kTe)} {A2 : List (gN × gTe)} {x : gN}
theorem teR.mo {t : gTe} {u : kTe} (h : teR E t u) (hE : ∀ x a, E x a → E' x a) : teR E' t u := ⟨h.1, h.2.imp id (fun ⟨y, a, e, h1, h2, h3⟩ => ⟨y, a, e, h1, h2, hE y a h3⟩)⟩
theorem lkE.mo (h : lkE na E G A2 x) (hE : ∀ x a, E x a → E' x a) : lkE na E' G A2 x := by
  unfold lkE at h ⊢
  cases e : gTf A2 x with
  | none =>
    rw [e] at h
    exact Or.imp (fun z => ⟨z.1, hE _ _ z.2⟩) (fun ⟨a, z1, z2⟩ => ⟨a, z1, hE _ _ z2⟩) h
  | some t =>
    rw [e] at h
    exact Exists.imp (fun u z => ⟨z.1, z.2.mo hE⟩) h
theorem lkE.cn (h : lkE na E G A2 x) (e : na' x = na x) : lkE na' E G A2 x := by
  unfold lkE at h ⊢
  rw [e]
  exact h
theorem kFi_ap (G : List (Nat × kTe)) (p : Nat × kTe) (a : Nat) : kFi (G ++ [p]) a = match kFi G a with
    | some u => some u
    | none => if p.1 = a then some p.2 else none := by
  induction G with
  | nil =>
    show kFi [p] a = if p.1 = a then some p.2 else none
    rw [kFi_cons]
    rfl
  | cons q G ih =>
    rw [List.cons_append, kFi_cons, kFi_cons]
    by_cases c : q.1 = a
    · rw [if_pos c, if_pos c]
    · rw [if_neg c, if_neg c]; exact ih
theorem kFi_no {G : List (Nat × kTe)} {a : Nat} (h : ∀ p, p ∈ G → p.1 ≠ a) : kFi G a = none := by
  induction G with
  | nil => rfl
  | cons q G ih => rw [kFi_cons, if_neg (h q (List.mem_cons_self ..))]; exact ih (fun p hp => h p (List.mem_cons_of_mem _ hp))
/-- a FACT's term, with what stands in its NAME's place -/
theorem lkE.rs {e p : Int} (h : lkE na E G A2 x) : teR E (gRs A2 (some (x, e), p)) (kRs G (some (na x, e), p)) := by
  unfold lkE at h
  unfold gRs kRs
  dsimp only
  cases hg : gTf A2 x with
  | none =>
    rw [hg] at h
    rcases h with ⟨h1, h2⟩ | ⟨a, h1, h2⟩
    · rw [h1]
      exact ⟨rfl, Or.inr ⟨x, na x, e, rfl, rfl, h2⟩⟩
    · rw [h1]
      exact ⟨by show p = p + e * 0; omega, Or.inr ⟨x, a, e, rfl, by show some (a, e * 1) = _; rw [Int.mul_one], h2⟩⟩
  | some t =>
    rw [hg] at h
    obtain ⟨u, h1, h2, h3⟩ := h
    rw [h1]
    refine ⟨by show p + e * t.2 = p + e * u.2; rw [h2], ?_⟩
    rcases h3 with ⟨h3, h4⟩ | ⟨y, a, e', h3, h4, h5⟩
    · exact Or.inl ⟨by show t.1.map _ = none; rw [h3]; rfl, by show u.1.map _ = none; rw [h4]; rfl⟩
    · exact Or.inr ⟨y, a, e * e', by show t.1.map _ = _; rw [h3]; rfl, by show u.1.map _ = _; rw [h4]; rfl, h5⟩
theorem gRs_none (A2 : List (gN × gTe)) (p : Int) : gRs A2 (none, p) = (none, p) := rfl
theorem kRs_none (G : List (Nat × kTe)) (p : Int) : kRs G (none, p) = (none, p) := rfl
end LKE
/-- NAMES of a TEMPLATE that were made for it lie apart -/
def kNj (na : gN → Nat) : tY → gTm → Nat → Nat → Prop
  | .leaf, _, a, b => a ≤ b
  | .inner k _ _ ya yb, m, a, b => a ≤ b ∧ (k = 0 → ∃ c c', (m.2.2.2.1 = [] → c ≤ na (mPn m) ∧ na (mPn m) < c') ∧ c ≤ c' ∧ kNj na ya (mTk m) a c ∧ kNj na yb (mAn m) c' b)
theorem kNj.le {na : gN → Nat} : ∀ (y : tY) (m : gTm) {a b : Nat}, kNj na y m a b → a ≤ b
  | .leaf, _, _, _, h => h
  | .inner _ _ _ _ _, _, _, _, h => h.1
theorem kNj.cg {na na' : gN → Nat} : ∀ (y : tY) (m : gTm) {a b : Nat}, (∀ r, na' (.inr (m.1, m.2.1 ++ r)) = na (.inr (m.1, m.2.1 ++ r))) → kNj na y m a b → kNj na' y m a b
  | .leaf, _, _, _, _, h => h
  | .inner k _ _ ya yb, m, a, b, e, h => by
    refine ⟨h.1, fun z => ?_⟩
    obtain ⟨c, c', h1, h2, h3, h4⟩ := h.2 z
    refine ⟨c, c', fun w => ?_, h2, kNj.cg ya (mTk m) (fun r => ?_) h3, kNj.cg yb (mAn m) (fun r => ?_) h4⟩
    · have ep : mPn m = .inr (m.1, m.2.1) := by unfold mPn; rw [w]
      have := h1 w
      rw [ep] at this ⊢
      have e0 := e []
      rw [List.append_nil] at e0
      rw [e0]
      exact this
    · show na' (.inr (m.1, m.2.1 ++ [false] ++ r)) = na (.inr (m.1, m.2.1 ++ [false] ++ r))
      rw [List.append_assoc]; exact e _
    · show na' (.inr (m.1, m.2.1 ++ [true] ++ r)) = na (.inr (m.1, m.2.1 ++ [true] ++ r))
      rw [List.append_assoc]; exact e _
theorem kNj.up {na : gN → Nat} : ∀ (y : tY) (m : gTm) {a a' b : Nat}, a' ≤ a → kNj na y m a b → kNj na y m a' b
  | .leaf, _, _, _, _, e, h => Nat.le_trans e h
  | .inner k _ _ ya yb, m, a, a', b, e, h => ⟨Nat.le_trans e h.1, fun z => by
    obtain ⟨c, c', h1, h2, h3, h4⟩ := h.2 z
    exact ⟨c, c', h1, h2, kNj.up ya (mTk m) e h3, h4⟩⟩
theorem kNj.tk {na : gN → Nat} {m : gTm} {ya yb : tY} (hy : m.2.2.1 = .inner 0 () () ya yb) (h : ∃ a b, kNj na m.2.2.1 m a b) : ∃ a b, kNj na ya (mTk m) a b := by
  obtain ⟨a, b, h⟩ := h
  rw [hy] at h
  obtain ⟨c, c', -, -, h3, -⟩ := h.2 rfl
  exact ⟨a, c, h3⟩
theorem kNj.an {na : gN → Nat} {m : gTm} {ya yb : tY} (hy : m.2.2.1 = .inner 0 () () ya yb) (h : ∃ a b, kNj na m.2.2.1 m a b) : ∃ a b, kNj na yb (mAn m) a b := by
  obtain ⟨a, b, h⟩ := h
  rw [hy] at h
  obtain ⟨c, c', -, -, -, h4⟩ := h.2 rfl
  exact ⟨c', b, h4⟩
section KTO
variable (st : Nat) (l : Nat → Nat) (b0 : Nat) (nq : tQ → Int) (xs : List tQ)
/-- **a TEMPLATE's place in cells** -/
def kTo (Ψ : kGh) (σ : oSt) : tY → gTm → Prop
  | .leaf, m => kGq st l b0 Ψ.2.2.1 σ (Ψ.2.1 (m.1, m.2.1)) (Ψ.2.1 (m.1, m.2.1)) 0 [] ∧ kOq st l b0 Ψ.2.2.1 σ (Ψ.2.1 (m.1, m.2.1)) []
  | .inner k _ _ a b, m => kGq st l b0 Ψ.2.2.1 σ (Ψ.2.1 (m.1, m.2.1)) (Ψ.2.1 (m.1, m.2.1)) (cKd (yK (.inner k () () a b))) [] ∧ if k = 0 then ((∃ fs gs, σ.1 (Ψ.2.1 (m.1, m.2.1)) = some (.inr (4, fs)) ∧ (fs[2]? = some (.ref (Ψ.1 (mPn m))) ∧ fs[3]? = some (.ref (Ψ.2.1 (m.1, m.2.1 ++ [false]))) ∧ fs[4]? = some (.ref (Ψ.2.1 (m.1, m.2.1 ++ [true]))) ∧ fs[7]? = some (.int 0)) ∧ σ.1 (Ψ.1 (mPn m)) = some (.inr (6, gs)) ∧ gs.length = 8 ∧ gs[3]? = some (.int (cKd (yK a))) ∧ (m.2.2.2.1 = [] → gs[0]? = some .null)) ∧ ∀ s, s ∈ m.2.2.2.2 → Ψ.1 s ≠ Ψ.1 (mPn m)) ∧ kTo Ψ σ a (mTk m) ∧ kTo Ψ σ b (mAn m) else kOq st l b0 Ψ.2.2.1 σ (Ψ.2.1 (m.1, m.2.1)) ((if k = 2 then [] else gIn nq xs (.inner k () () a b) m.2.2.2.2).map (fun c => (c.1, kTm Ψ.1 c.2))) ∧ Ψ.2.2.1 (Ψ.2.1 (m.1, m.2.1))
/-- **a Known stands for a type** -/
def kRl (Ψ : kGh) (σ : oSt) (E : gN → Nat → Prop) (k : Nat) (A : gTy) : Prop := match A.1 with
  | .inl x => (A.2 = [] ∧ ¬ Ψ.2.2.1 k) ∧ ∃ F, kGq st l b0 Ψ.2.2.1 σ k k (cKd (yK x.1)) [] ∧ kOq st l b0 Ψ.2.2.1 σ k F ∧ F.length = x.2.length ∧ ∀ (i : Nat) (c : gFc), x.2[i]? = some c → ∃ u, F[i]? = some (c.1, u) ∧ teR E c.2 u
  | .inr m => (Ψ.2.2.2 m.1 ∧ ∀ s, s ∈ m.2.2.2.2 → gMd Ψ.2.2.2 s) ∧ kTo st l b0 nq xs Ψ σ m.2.2.1 m ∧ ∃ G, kGq st l b0 Ψ.2.2.1 σ k (Ψ.2.1 (m.1, m.2.1)) (cKd (yK m.2.2.1)) G ∧ (G.length ≤ m.2.1.count true ∧ (∀ p, p ∈ G → ∃ s, s ∈ m.2.2.2.2 ∧ p.1 = Ψ.1 s) ∧ ∃ a b, kNj Ψ.1 m.2.2.1 m a b) ∧ ∀ s, s ∈ m.2.2.2.2 → lkE Ψ.1 E G A.2 s
/-- a Known stands for a type; no more than p were put in -/
def kRp (Ψ : kGh) (σ : oSt) (E : gN → Nat → Prop) (k : Nat) (A : gTy) (p : Nat) : Prop := match A.1 with
  | .inl x => (A.2 = [] ∧ ¬ Ψ.2.2.1 k) ∧ ∃ F, kGq st l b0 Ψ.2.2.1 σ k k (cKd (yK x.1)) [] ∧ kOq st l b0 Ψ.2.2.1 σ k F ∧ F.length = x.2.length ∧ ∀ (i : Nat) (c : gFc), x.2[i]? = some c → ∃ u, F[i]? = some (c.1, u) ∧ teR E c.2 u
  | .inr m => (Ψ.2.2.2 m.1 ∧ ∀ s, s ∈ m.2.2.2.2 → gMd Ψ.2.2.2 s) ∧ kTo st l b0 nq xs Ψ σ m.2.2.1 m ∧ ∃ G, kGq st l b0 Ψ.2.2.1 σ k (Ψ.2.1 (m.1, m.2.1)) (cKd (yK m.2.2.1)) G ∧ ((G.length ≤ m.2.1.count true ∧ G.length ≤ p) ∧ (∀ p, p ∈ G → ∃ s, s ∈ m.2.2.2.2 ∧ p.1 = Ψ.1 s) ∧ ∃ a b, kNj Ψ.1 m.2.2.1 m a b) ∧ ∀ s, s ∈ m.2.2.2.2 → lkE Ψ.1 E G A.2 s
end KTO
section KTP
variable {st : Nat} {l : Nat → Nat} {b0 : Nat} {nq : tQ → Int} {xs : List tQ} {Ψ Ψ' : kGh} {σ σ' : oSt} {W : Nat → Prop} {E E' : gN → Nat → Prop}
theorem mPn_md {Ms : Nat → Prop} {m : gTm} (h : Ms m.1) : gMd Ms (mPn m) := by
  unfold mPn
  split
  · exact h
  · trivial
theorem gIn_nm {y : tY} {S : List gN} {c : gFc} (h : c ∈ gIn nq xs y S) : ∀ s e, c.2.1 = some (s, e) → s ∈ S ∧ (e = 1 ∨ e = -1) := fun s e w => by
  unfold gIn at h
  obtain ⟨q, -, h⟩ := List.mem_flatMap.mp h
  split at h
  · split at h
    · obtain ⟨s', hs, rfl⟩ := List.mem_map.mp h
      injection w with w
      injection w with w1 w2
      refine ⟨w1 ▸ hs, ?_⟩
      rw [← w2]
      split
      · exact Or.inr rfl
      · exact Or.inl rfl
    · rw [List.mem_singleton.mp h] at w
      cases w
  · cases h
theorem kTm_ag {na na' : gN → Nat} {t : gTe} (h : ∀ s e, t.1 = some (s, e) → na' s = na s) : kTm na' t = kTm na t := by
  unfold kTm
  cases e : t.1 with
  | none => rfl
  | some p =>
    show (some (na' p.1, p.2), t.2) = (some (na p.1, p.2), t.2)
    rw [h p.1 p.2 e]
theorem kTo.sp (kk : gKp st l b0 W σ σ') (ag : gAg σ Ψ Ψ') (hfr : ∀ q, σ.2.1 ≤ q → σ.1 q = none) : ∀ (y : tY) (m : gTm), Ψ.2.2.2 m.1 → (∀ s, s ∈ m.2.2.2.2 → gMd Ψ.2.2.2 s) → kTo st l b0 nq xs Ψ σ y m → kTo st l b0 nq xs Ψ' σ' y m
  | .leaf, m, hk, hs, ⟨h1, h2⟩ => by
    unfold kTo
    rw [ag.2.1 _ _ hk]
    exact ⟨h1.sp kk ag.2.2.1 hfr, h2.sp kk ag.2.2.1 hfr⟩
  | .inner k _ _ a b, m, hk, hs, ⟨h1, h2⟩ => by
    unfold kTo
    rw [ag.2.1 _ _ hk]
    refine ⟨h1.sp kk ag.2.2.1 hfr, ?_⟩
    by_cases c : k = 0
    · rw [if_pos c] at h2 ⊢
      obtain ⟨⟨⟨fs, gs, g1, g2, g3, g4, g5⟩, g6⟩, ha, hb⟩ := h2
      have ep := ag.1 _ (mPn_md (m := m) hk)
      obtain ⟨gs', n1, n2, n3⟩ := kk.2.1 _ _ g3
      refine ⟨⟨⟨fs, gs', kk.ob g1 (by decide) (by decide) (by decide) (by decide), ?_, ?_, n2.trans g4, (n3 3 (by decide) (fun z => absurd z (by decide))).trans g5.1, fun z => (n3 0 (by decide) (fun z => absurd z (by decide))).trans (g5.2 z)⟩, fun s h => ?_⟩, kTo.sp kk ag hfr a (mTk m) hk hs ha, kTo.sp kk ag hfr b (mAn m) hk (fun s h => ?_) hb⟩
      · rw [ep, ag.2.1 _ _ hk, ag.2.1 _ _ hk]; exact g2
      · rw [ep]; exact n1
      · rw [ep, ag.1 s (hs s h)]; exact g6 s h
      · have h : s ∈ (if gMs (yL m.2.2.1) = true then m.2.2.2.2 ++ [mPn m] else m.2.2.2.2) := h
        split at h
        · rcases List.mem_append.mp h with z | z
          · exact hs s z
          · rw [List.mem_singleton.mp z]; exact mPn_md hk
        · exact hs s h
    · rw [if_neg c] at h2 ⊢
      have eF : (if k = 2 then [] else gIn nq xs (.inner k () () a b) m.2.2.2.2).map (fun c => (c.1, kTm Ψ'.1 c.2)) = (if k = 2 then [] else gIn nq xs (.inner k () () a b) m.2.2.2.2).map (fun c => (c.1, kTm Ψ.1 c.2)) := by
        refine List.map_congr_left (fun c hc => ?_)
        split at hc
        · cases hc
        · rw [kTm_ag (fun s e w => ag.1 s (hs s (gIn_nm hc s e w).1))]
      rw [eF]
      refine ⟨h2.1.sp kk ag.2.2.1 hfr, (ag.2.2.1 _ ?_).mpr h2.2⟩
      obtain ⟨fs, -, -, k1, -⟩ := h1
      exact Nat.lt_of_not_le (fun z => by rw [hfr _ z] at k1; cases k1)
theorem kRl.sp {k : Nat} {A : gTy} (kk : gKp st l b0 W σ σ') (ag : gAg σ Ψ Ψ') (hfr : ∀ q, σ.2.1 ≤ q → σ.1 q = none) (h : kRl st l b0 nq xs Ψ σ E k A) : kRl st l b0 nq xs Ψ' σ' E k A := by
  unfold kRl at h ⊢
  match e : A.1 with
  | .inl x =>
    rw [e] at h
    obtain ⟨h1, F, h2, h3, h4⟩ := h
    refine ⟨⟨h1.1, fun z => h1.2 ((ag.2.2.1 _ ?_).mp z)⟩, F, h2.sp kk ag.2.2.1 hfr, h3.sp kk ag.2.2.1 hfr, h4⟩
    obtain ⟨fs, -, -, k1, -⟩ := h2
    exact Nat.lt_of_not_le (fun z => by rw [hfr _ z] at k1; cases k1)
  | .inr m =>
    rw [e] at h
    obtain ⟨⟨h1, h1'⟩, h2, G, h3, h4, h5⟩ := h
    refine ⟨⟨ag.2.2.2 _ h1, fun s hs => (h1' s hs).mo ag.2.2.2⟩, kTo.sp kk ag hfr _ m h1 h1' h2, G, ?_, ⟨h4.1, fun p hp => ?_, ?_⟩, fun s hs => (h5 s hs).cn (ag.1 s (h1' s hs))⟩
    · rw [ag.2.1 _ _ h1]; exact h3.sp kk ag.2.2.1 hfr
    · obtain ⟨s, s1, s2⟩ := h4.2.1 p hp
      exact ⟨s, s1, by rw [ag.1 s (h1' s s1)]; exact s2⟩
    · obtain ⟨a, b, h6⟩ := h4.2.2
      exact ⟨a, b, kNj.cg _ m (fun r => ag.1 _ h1) h6⟩
theorem kRl.mo {k : Nat} {A : gTy} (h : kRl st l b0 nq xs Ψ σ E k A) (hE : ∀ x a, E x a → E' x a) : kRl st l b0 nq xs Ψ σ E' k A := by
  unfold kRl at h ⊢
  match e : A.1 with
  | .inl x =>
    rw [e] at h
    obtain ⟨h1, F, h2, h3, h4, h5⟩ := h
    exact ⟨h1, F, h2, h3, h4, fun i c hc => (h5 i c hc).imp fun u z => ⟨z.1, z.2.mo hE⟩⟩
  | .inr m =>
    rw [e] at h
    obtain ⟨h1, h2, G, h3, h4, h5⟩ := h
    exact ⟨h1, h2, G, h3, h4, fun s hs => (h5 s hs).mo hE⟩
theorem kRp.sp {k p : Nat} {A : gTy} (kk : gKp st l b0 W σ σ') (ag : gAg σ Ψ Ψ') (hfr : ∀ q, σ.2.1 ≤ q → σ.1 q = none) (h : kRp st l b0 nq xs Ψ σ E k A p) : kRp st l b0 nq xs Ψ' σ' E k A p := by
  unfold kRp at h ⊢
  match e : A.1 with
  | .inl x =>
    rw [e] at h
    obtain ⟨h1, F, h2, h3, h4⟩ := h
    refine ⟨⟨h1.1, fun z => h1.2 ((ag.2.2.1 _ ?_).mp z)⟩, F, h2.sp kk ag.2.2.1 hfr, h3.sp kk ag.2.2.1 hfr, h4⟩
    obtain ⟨fs, -, -, k1, -⟩ := h2
    exact Nat.lt_of_not_le (fun z => by rw [hfr _ z] at k1; cases k1)
  | .inr m =>
    rw [e] at h
    obtain ⟨⟨h1, h1'⟩, h2, G, h3, h4, h5⟩ := h
    refine ⟨⟨ag.2.2.2 _ h1, fun s hs => (h1' s hs).mo ag.2.2.2⟩, kTo.sp kk ag hfr _ m h1 h1' h2, G, ?_, ⟨h4.1, fun p hp => ?_, ?_⟩, fun s hs => (h5 s hs).cn (ag.1 s (h1' s hs))⟩
    · rw [ag.2.1 _ _ h1]; exact h3.sp kk ag.2.2.1 hfr
    · obtain ⟨s, s1, s2⟩ := h4.2.1 p hp
      exact ⟨s, s1, by rw [ag.1 s (h1' s s1)]; exact s2⟩
    · obtain ⟨a, b, h6⟩ := h4.2.2
      exact ⟨a, b, kNj.cg _ m (fun r => ag.1 _ h1) h6⟩
theorem kRp.mo {k p : Nat} {A : gTy} (h : kRp st l b0 nq xs Ψ σ E k A p) (hE : ∀ x a, E x a → E' x a) : kRp st l b0 nq xs Ψ σ E' k A p := by
  unfold kRp at h ⊢
  match e : A.1 with
  | .inl x =>
    rw [e] at h
    obtain ⟨h1, F, h2, h3, h4, h5⟩ := h
    exact ⟨h1, F, h2, h3, h4, fun i c hc => (h5 i c hc).imp fun u z => ⟨z.1, z.2.mo hE⟩⟩
  | .inr m =>
    rw [e] at h
    obtain ⟨h1, h2, G, h3, h4, h5⟩ := h
    exact ⟨h1, h2, G, h3, h4, fun s hs => (h5 s hs).mo hE⟩
theorem kRp.rl {k p : Nat} {A : gTy} (h : kRp st l b0 nq xs Ψ σ E k A p) : kRl st l b0 nq xs Ψ σ E k A := by
  unfold kRp at h
  unfold kRl
  match e : A.1 with
  | .inl x =>
    rw [e] at h
    exact h
  | .inr m =>
    rw [e] at h
    obtain ⟨h1, h2, G, h3, h4, h5⟩ := h
    exact ⟨h1, h2, G, h3, ⟨h4.1.1, h4.2⟩, h5⟩
/-- a TEMPLATE's place stands for itself -/
theorem kTo.hd {y : tY} {m : gTm} (h : kTo st l b0 nq xs Ψ σ y m) : kGq st l b0 Ψ.2.2.1 σ (Ψ.2.1 (m.1, m.2.1)) (Ψ.2.1 (m.1, m.2.1)) (cKd (yK y)) [] := by
  cases y with
  | leaf => exact h.1
  | inner k x z a b => exact h.1
theorem kRl.kd {k : Nat} {A : gTy} (h : kRl st l b0 nq xs Ψ σ E k A) : ∃ w G, kGq st l b0 Ψ.2.2.1 σ k w (cKd (yK (gSy A))) G := by
  unfold kRl at h
  unfold gSy
  match e : A.1 with
  | .inl x =>
    rw [e] at h
    obtain ⟨h1, F, h2, h3, h4, h5⟩ := h
    exact ⟨_, _, h2⟩
  | .inr m =>
    rw [e] at h
    obtain ⟨h1, h2, G, h3, h4, h5⟩ := h
    exact ⟨_, _, h3⟩
end KTP
