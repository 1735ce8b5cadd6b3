/-! weakenAll(): what a type says now -/
/-- INSTANCES that are left: by cells of Knowns -/
def wkD (st : Nat) (l : Nat → Nat) (b0 : Nat) (Q : Nat → Prop) (σG σ : oSt) (Fc : Nat → Nat → Bool) : Prop := ∀ w F, kOq st l b0 Q σG w F → ∃ ra sa, kOr (b0, Q) σ w ra sa (fQk (Fc w) 0 F) ∧ (F ≠ [] → kRw (b0, Q) ra sa σ ∧ ∃ fs, σG.1 w = some (.inr (4, fs)) ∧ fs[5]? = some (.ref ra) ∧ fs[6]? = some (.ref sa))
theorem gRs_nl (t : gTe) : gRs [] t = t := by
  obtain ⟨a, b⟩ := t
  cases a with
  | none => rfl
  | some p => rfl
theorem kRs_nl (t : kTe) : kRs [] t = t := by
  obtain ⟨a, b⟩ := t
  cases a with
  | none => rfl
  | some p => rfl
section KDY
variable {st : Nat} {l : Nat → Nat} {b0 : Nat} {nq : tQ → Int} {xs : List tQ} {Ψ : kGh} {σG σ : oSt} {E : gN → Nat → Prop} {k : Nat} {A : gTy} {pa ph ta th : Nat} {Fc : Nat → Nat → Bool}
/-- **what is known, in cells, now** -/
theorem kRl.dy (hJ : pa < b0 ∧ ph < b0 ∧ ta < b0 ∧ th < b0) (hf : wFr Ψ.2.2.1 pa ph ta th σG σ) (hD : wkD st l b0 Ψ.2.2.1 σG σ Fc) (hs : ∀ w, ¬ Ψ.2.2.1 w → ∀ i, Fc w i = true) (hk : kRl st l b0 nq xs Ψ σG E k A) (hm : gMs (gSy A) = true) : ∃ w ra sa G F, (∃ fs, σ.1 k = some (.inr (4, fs)) ∧ fs[0]? = some (.int (cKd (yK (gSy A))))) ∧ kGo (b0, Ψ.2.2.1) σ k w G ∧ kOr (b0, Ψ.2.2.1) σ w ra sa F ∧ F.length = (gSa (fun kp => Fc (Ψ.2.1 kp)) nq xs A).length ∧ (∀ (i : Nat) (c : gFc), (gSa (fun kp => Fc (Ψ.2.1 kp)) nq xs A)[i]? = some c → ∃ u, F[i]? = some (c.1, u) ∧ teR E (gRs A.2 c.2) (kRs G u)) ∧ ∀ m, A.1 = .inr m → (w = Ψ.2.1 (m.1, m.2.1) ∧ Ψ.2.2.1 w ∧ Ψ.2.2.2 m.1) ∧ kOq st l b0 Ψ.2.2.1 σG w ((gIn nq xs m.2.2.1 m.2.2.2.2).map (fun c => (c.1, kTm Ψ.1 c.2))) ∧ F = fQk (Fc w) 0 ((gIn nq xs m.2.2.1 m.2.2.2.2).map (fun c => (c.1, kTm Ψ.1 c.2))) ∧ ∀ c, c ∈ gIn nq xs m.2.2.1 m.2.2.2.2 → teR E (gRs A.2 c.2) (kRs G (kTm Ψ.1 c.2)) := by
  unfold kRl at hk
  unfold gSy at hm ⊢
  match e : A.1 with
  | .inl x =>
    rw [e] at hk
    obtain ⟨⟨h1, h1'⟩, F, h2, h3, h4, h5⟩ := hk
    obtain ⟨ra, sa, h6, -⟩ := hD k F h3
    rw [fQk_all 0 F (hs k h1')] at h6
    obtain ⟨fs, gn, ins, k1, k0, -⟩ := h2.f
    obtain ⟨fs', e1, e2, e3⟩ := hf.2.1 k fs k1
    have eS : gSa (fun kp => Fc (Ψ.2.1 kp)) nq xs A = x.2 := by unfold gSa; rw [e]
    refine ⟨k, ra, sa, [], F, ⟨fs', e1, (e3 0 (by decide) (by decide) (by decide)).trans k0⟩, h2.go.wf hJ hf, h6, by rw [eS]; exact h4, fun i c hc => ?_, fun m z => by cases z⟩
    rw [eS] at hc
    obtain ⟨u, u1, u2⟩ := h5 i c hc
    exact ⟨u, u1, by rw [h1, gRs_nl, kRs_nl]; exact u2⟩
  | .inr m =>
    rw [e] at hk hm
    obtain ⟨⟨h1, h1'⟩, h2, G, h3, h4, h5⟩ := hk
    have hm : gMs m.2.2.1 = true := hm
    obtain ⟨kk, a, b, hy, n0, n2⟩ : ∃ kk a b, m.2.2.1 = .inner kk () () a b ∧ kk ≠ 0 ∧ kk ≠ 2 := by
      cases q : m.2.2.1 with
      | leaf => rw [q] at hm; cases hm
      | inner kk u1 u2 a b =>
        refine ⟨kk, a, b, rfl, fun z => ?_, fun z => ?_⟩
        · rw [q, z] at hm; cases hm
        · rw [q, z] at hm; cases hm
    have h2 := h2
    rw [hy] at h2
    have h6 := h2.2
    rw [if_neg n0, if_neg n2, ← hy] at h6
    obtain ⟨h6, h7⟩ := h6
    obtain ⟨ra, sa, h8, -⟩ := hD _ _ h6
    obtain ⟨fs, gn, ins, k1, k0, -⟩ := h3.f
    obtain ⟨fs', e1, e2, e3⟩ := hf.2.1 k fs k1
    have eS : gSa (fun kp => Fc (Ψ.2.1 kp)) nq xs A = fQk (Fc (Ψ.2.1 (m.1, m.2.1))) 0 (gIn nq xs m.2.2.1 m.2.2.2.2) := by unfold gSa; rw [e]
    have tm : ∀ c, c ∈ gIn nq xs m.2.2.1 m.2.2.2.2 → teR E (gRs A.2 c.2) (kRs G (kTm Ψ.1 c.2)) := fun c hc => by
      obtain ⟨c0, c1, c2⟩ := c
      cases c1 with
      | none => exact ⟨rfl, Or.inl ⟨rfl, rfl⟩⟩
      | some p =>
        obtain ⟨s, e'⟩ := p
        exact (h5 s (gIn_nm hc s e' rfl).1).rs
    refine ⟨_, ra, sa, G, _, ⟨fs', e1, (e3 0 (by decide) (by decide) (by decide)).trans k0⟩, h3.go.wf hJ hf, h8, by rw [eS, fQk_map, List.length_map], fun i c hc => ?_, fun m' z => ?_⟩
    · rw [eS] at hc
      refine ⟨kTm Ψ.1 c.2, by rw [fQk_map, List.getElem?_map, hc]; rfl, tm c (fQk_sub 0 _ c (List.mem_of_getElem? hc))⟩
    · injection z with z
      rw [← z]
      exact ⟨⟨rfl, h7, h1⟩, h6, rfl, tm⟩
/-- the limits are the same -/
theorem fac_gl {al : Nat × List Bool → Nat → Bool} {F : List kFc} {G : List (Nat × kTe)} {sl : Nat → Nat} {sl' : gN → Nat} (hl : F.length = (gSa al nq xs A).length) (h : ∀ (i : Nat) (c : gFc), (gSa al nq xs A)[i]? = some c → ∃ u, F[i]? = some (c.1, u) ∧ teR E (gRs A.2 c.2) (kRs G u)) (hsl : ∀ y a, E y a → sl a = sl' y) (s : Nat) : F.flatMap (fun x => facL s (x.1, kSl sl (kRs G x.2))) = gLm al nq xs sl' s A := by
  unfold gLm
  rw [List.flatMap_def, List.flatMap_def]
  congr 1
  refine List.ext_getElem? (fun i => ?_)
  rw [List.getElem?_map, List.getElem?_map]
  cases e : (gSa al nq xs A)[i]? with
  | none =>
    rw [List.getElem?_eq_none_iff] at e
    rw [List.getElem?_eq_none (by omega)]; rfl
  | some c =>
    obtain ⟨u, u1, u2⟩ := h i c e
    rw [u1]
    show some (facL s (c.1, kSl sl (kRs G u))) = some (facL s (c.1, gKt sl' (gRs A.2 c.2)))
    rw [u2.ks hsl]
/-- what the Judge wants of it -/
theorem kRl.in {Q : Nat → Prop} {B : Int} {ms : List Nat} {w ra sa : Nat} {G : List (Nat × kTe)} {F : List kFc} {al : Nat × List Bool → Nat → Bool} {Γ : uGm} {S : List gN} (h0 : ∃ fs, σ.1 k = some (.inr (4, fs)) ∧ fs[0]? = some (.int (cKd (yK (gSy A))))) (hG : kGo (b0, Q) σ k w G) (hO : kOr (b0, Q) σ w ra sa F) (hl : F.length = (gSa al Γ.2.2.1 Γ.2.2.2.1 A).length) (h : ∀ (i : Nat) (c : gFc), (gSa al Γ.2.2.1 Γ.2.2.2.1 A)[i]? = some c → ∃ u, F[i]? = some (c.1, u) ∧ teR E (gRs A.2 c.2) (kRs G u)) (hE : ∀ y a, E y a → a ∈ ms) (hq : gAq Γ S B A) : kInf (b0, Q) σ B ms k (decide (cKd (yK (gSy A)) ≠ 210), G, F) := by
  obtain ⟨fs, f1, f2⟩ := h0
  refine ⟨w, ra, sa, fs, _, f1, f2, rfl, hG, hO, fun x hx => ?_⟩
  obtain ⟨i, hi⟩ := List.getElem?_of_mem (show x ∈ F from hx)
  have hil : i < F.length := by
    by_cases c : i < F.length
    · exact c
    · rw [List.getElem?_eq_none (by omega)] at hi; cases hi
  obtain ⟨c, hc⟩ : ∃ c, (gSa al Γ.2.2.1 Γ.2.2.2.1 A)[i]? = some c := ⟨_, List.getElem?_eq_getElem (by omega)⟩
  obtain ⟨u, u1, u2, u3⟩ := h i c hc
  have hi : F[i]? = some x := hi
  rw [hi] at u1
  injection u1 with u1
  rw [u1]
  have mem : c ∈ gFa Γ.2.2.1 Γ.2.2.2.1 A := by
    have := List.mem_of_getElem? hc
    unfold gSa at this
    unfold gFa
    match e : A.1 with
    | .inl x => rw [e] at this; exact this
    | .inr m => rw [e] at this; exact fQk_sub 0 _ c this
  obtain ⟨q1, q2, q3, q4⟩ := hq.1 c mem
  refine ⟨fun a e ea => ?_, ?_⟩
  · rcases u3 with ⟨z1, z2⟩ | ⟨y, a', e', z1, z2, z3⟩
    · have ea : (kRs G u).1 = some (a, e) := ea
      rw [z2] at ea; cases ea
    · have ea : (kRs G u).1 = some (a, e) := ea
      rw [z2] at ea
      injection ea with ea
      injection ea with ea _
      rw [← ea]
      exact hE y a' z3
  · show kBd B (kRs G u)
    unfold kBd
    unfold gTb at q4
    rw [← u2]
    exact q4
end KDY
