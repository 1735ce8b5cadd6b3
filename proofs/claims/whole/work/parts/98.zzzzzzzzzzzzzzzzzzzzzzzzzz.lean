/-! weakenAll(): lastChange() sees every origin -/
/-- every Known that was made by gather() knows when it was changed -/
def chI (σG σ : oSt) : Prop := ∀ w fs, σG.1 w = some (.inr (4, fs)) → ∃ gs v, σ.1 w = some (.inr (4, gs)) ∧ gs[8]? = some (.int v)
/-- a question of the Judge keeps it -/
theorem chI.kx {X : Nat → Prop} {pa ph ta th : Nat} {σG σ σ' : oSt} (h : chI σG σ) (k : jKx X pa ph ta th σ σ') : chI σG σ' := fun w fs e => by
  obtain ⟨gs, v, g1, g2⟩ := h w fs e
  obtain ⟨gs', e1, -, e3⟩ := k.2.1 w gs g1
  exact ⟨gs', v, e1, (e3 8 (by decide) (fun z => absurd z (by decide))).trans g2⟩
section SLC
variable {st : Nat} {l : Nat → Nat} {b0 : Nat} {nq : tQ → Int} {xs : List tQ} {Ψ : kGh} {σG σ : oSt} {CN : Nat → gCd → Prop} {pa ph ta th : Nat} {E : gN → Nat → Prop}
/-- a Known and its origin, now -/
theorem kRl.og {k : Nat} {A : gTy} (hf : wFr Ψ.2.2.1 pa ph ta th σG σ) (hc : chI σG σ) (h : kRl st l b0 nq xs Ψ σG E k A) : ∃ gs w hs v, (σ.1 k = some (.inr (4, gs)) ∧ gs[1]? = some (.ref w)) ∧ (σ.1 w = some (.inr (4, hs)) ∧ hs[8]? = some (.int v)) ∧ ∀ m, A.1 = .inr m → w = Ψ.2.1 (m.1, m.2.1) := by
  have go : ∀ {k w : Nat} {G : List (Nat × kTe)}, kGo (b0, Ψ.2.2.1) σG k w G → ∃ gs v, (σ.1 k = some (.inr (4, gs)) ∧ gs[1]? = some (.ref w)) ∧ gs[8]? = some (.int v) := fun {k w G} g => by
    obtain ⟨fs, f1, f2, f3, -⟩ := g
    obtain ⟨gs, g1, g2, g3⟩ := hf.2.1 k fs f1
    obtain ⟨gs', v, e1, e2⟩ := hc k fs f1
    rw [g1] at e1
    injection e1 with e1; injection e1 with e1; injection e1 with _ e1
    subst e1
    exact ⟨gs, v, ⟨g1, (g3 1 (by decide) (by decide) (by decide)).trans f3⟩, e2⟩
  unfold kRl at h
  match e : A.1 with
  | .inl x =>
    rw [e] at h
    obtain ⟨-, F, h2, -⟩ := h
    obtain ⟨gs, v, g1, hv⟩ := go h2.go
    exact ⟨gs, k, gs, v, g1, ⟨g1.1, hv⟩, fun m z => by cases z⟩
  | .inr m =>
    rw [e] at h
    obtain ⟨-, h2, G, h3, -⟩ := h
    obtain ⟨gs, v0, g1, -⟩ := go h3.go
    have h4 : ∃ kd G', kGq st l b0 Ψ.2.2.1 σG (Ψ.2.1 (m.1, m.2.1)) (Ψ.2.1 (m.1, m.2.1)) kd G' := by
      cases q : m.2.2.1 with
      | leaf =>
        rw [q] at h2
        exact ⟨_, _, h2.1⟩
      | inner kk u1 u2 a b =>
        rw [q] at h2
        exact ⟨_, _, h2.1⟩
    obtain ⟨kd, G', h4⟩ := h4
    obtain ⟨gs', v, g1', hv⟩ := go h4.go
    exact ⟨gs, _, gs', v, g1, ⟨g1'.1, hv⟩, fun m' z => by
      injection z with z
      rw [← z]⟩
/-- **lastChange() sees the origins of all that is measured** -/
theorem scR.lc (hf : wFr Ψ.2.2.1 pa ph ta th σG σ) (hc : chI σG σ) : ∀ (Sc : List sEn) (s : Option Nat) (sc : List gEn) (Es : List (gN × Nat)), scR st l b0 nq xs Ψ σG CN Sc s sc Es → ∃ Ws, lcS σ Sc s Ws ∧ ∀ y A m, (y, A) ∈ scN sc → A.1 = .inr m → Ψ.2.1 (m.1, m.2.1) ∈ Ws
  | [], s, sc, Es, ⟨h1, h2, _⟩ => ⟨[], ⟨h1, rfl⟩, fun y A m z => by rw [h2] at z; cases z⟩
  | .inl a :: r, s, sc, Es, ⟨q, ou, fs, bs, ⟨h1, h2⟩, ⟨h3, h4, h5⟩, h6⟩ => by
    obtain ⟨fs', n1, n2, n3⟩ := hf.2.2.1 a fs h3
    have h2' := hf.o h2 (by decide) (by decide) (by decide) (by decide) (by decide)
    rcases h6 with ⟨h6, ⟨k0, A0, h70, h71⟩, h7⟩ | ⟨h6, x, A, k, sc', Es', ⟨h7, h7', -⟩, h8, h9, h10, h11⟩
    · obtain ⟨Ws, w1, w2⟩ := scR.lc hf hc r ou sc Es h7
      obtain ⟨gs, w, hs, v, g1, g2, -⟩ := h71.og hf hc
      exact ⟨w :: Ws, ⟨q, ou, fs', k0, gs, w, hs, v, Ws, ⟨h1, h2'⟩, ⟨n1, (n3 4 (by decide) (by decide)).trans h70⟩, g1, g2, rfl, w1⟩, fun y A m z e => List.mem_cons_of_mem _ (w2 y A m z e)⟩
    · obtain ⟨Ws, w1, w2⟩ := scR.lc hf hc r ou sc' Es' h11
      obtain ⟨gs, w, hs, v, g1, g2, g3⟩ := h10.og hf hc
      refine ⟨w :: Ws, ⟨q, ou, fs', k, gs, w, hs, v, Ws, ⟨h1, h2'⟩, ⟨n1, (n3 4 (by decide) (by decide)).trans h8⟩, g1, g2, rfl, w1⟩, fun y B m z e => ?_⟩
      rw [h7] at z
      have z : (y, B) ∈ (x, A) :: scN sc' := z
      rcases List.mem_cons.mp z with z | z
      · injection z with z1 z2
        rw [z2] at e
        rw [← g3 m e]
        exact List.mem_cons_self ..
      · exact List.mem_cons_of_mem _ (w2 y B m z e)
  | .inr (m, h) :: r, s, sc, Es, ⟨q, ou, c, sc', ⟨h1, h2⟩, h3, h4, h5⟩ => by
    obtain ⟨Ws, w1, w2⟩ := scR.lc hf hc r ou sc' Es h5
    refine ⟨Ws, ⟨q, ou, ⟨h1, hf.o h2 (by decide) (by decide) (by decide) (by decide) (by decide)⟩, w1⟩, fun y A m' z e => ?_⟩
    rw [h3] at z
    exact w2 y A m' z e
end SLC
