/-! type(): what is known of a NAME, as it is printed -/
section TKO
variable {st : Nat} {l : Nat → Nat} {b0 : Nat} {Γ : uGm} {Ψ : kGh} {σG σ : oSt} {pa ph ta th : Nat} {Fc : Nat → Nat → Bool} {Nm : gN → Prop}
theorem teR.kt {na : gN → Nat} {t : gTe} {u : kTe} (h : teR (fun y b => b = na y) t u) : u = kTm na t := by
  obtain ⟨t1, t2⟩ := t
  obtain ⟨u1, u2⟩ := u
  obtain ⟨h1, h2⟩ := h
  have h1 : t2 = u2 := h1
  subst h1
  rcases h2 with ⟨a, b⟩ | ⟨y, a, e, a1, a2, a3⟩
  · have a : t1 = none := a
    have b : u1 = none := b
    subst a b
    rfl
  · have a1 : t1 = some (y, e) := a1
    have a2 : u1 = some (a, e) := a2
    have a3 : a = na y := a3
    subst a1 a2 a3
    rfl
theorem kGq.pk {Q : Nat → Prop} {k w : Nat} {kd : Int32} {G : List (Nat × kTe)} (hJ : pa < b0 ∧ ph < b0 ∧ ta < b0 ∧ th < b0) (hf : wFr Q pa ph ta th σG σ) (h : kGq st l b0 Q σG k w kd G) : kPk (b0, Q) σ k w G kd := by
  obtain ⟨fs, gn, ins, k1, -, k0, -, -, -, k10, -⟩ := id h
  obtain ⟨fs', e1, e2, e3⟩ := hf.2.1 k fs k1
  exact ⟨h.go.wf hJ hf, fs', ins, e1, (e3 10 (by decide) (by decide) (by decide)).trans k10, (e3 0 (by decide) (by decide) (by decide)).trans k0⟩
/-- a TEMPLATE's place, printed -/
theorem tOr_to {A2 : List (gN × gTe)} {G : List (Nat × kTe)} (hJ : pa < b0 ∧ ph < b0 ∧ ta < b0 ∧ th < b0) (hf : wFr Ψ.2.2.1 pa ph ta th σG σ) (hD : wkD st l b0 Ψ.2.2.1 σG σ Fc) : ∀ (y : tY) (m : gTm), kTo st l b0 Γ.2.2.1 Γ.2.2.2.1 Ψ σG y m → m.2.2.1 = y → vTy Γ Nm y (.inr m, A2) → (∀ s, s ∈ m.2.2.2.2 → lkE Ψ.1 (fun y b => b = Ψ.1 y) G A2 s) → (∀ p, p ∈ G → ∃ s, s ∈ m.2.2.2.2 ∧ p.1 = Ψ.1 s) → (∀ p, p ∈ A2 → p.1 ∈ m.2.2.2.2) → tOr Ψ.1 Nm (tSy (fun kp => Fc (Ψ.2.1 kp)) Γ.2.2.1 Γ.2.2.2.1) (b0, Ψ.2.2.1) σ G y (.inr m, A2) (Ψ.2.1 (m.1, m.2.1))
  | .leaf, m, _, _, hv, _, _, _ => hv.elim
  | .inner k x v a b, m, hto, hy, hv, h5, hG, hA => by
    obtain ⟨t1, t2⟩ := hto
    unfold vTy at hv
    unfold tOr
    refine ⟨t1.pk hJ hf, ?_⟩
    by_cases c : k = 0
    · rw [if_pos c] at t2 hv ⊢
      obtain ⟨⟨⟨fs, gs, g1, ⟨g2, g3, g4, -⟩, -⟩, g6⟩, ha, hb⟩ := t2
      obtain ⟨fs', e1, e2, e3⟩ := hf.2.1 _ fs g1
      have hyk : m.2.2.1 = .inner 0 () () a b := by rw [hy, c]
      refine ⟨fs', _, _, e1, ⟨(e3 2 (by decide) (by decide) (by decide)).trans g2, hv.1, (e3 3 (by decide) (by decide) (by decide)).trans g3, (e3 4 (by decide) (by decide) (by decide)).trans g4⟩, ?_, ?_⟩
      · exact tOr_to hJ hf hD a (mTk m) ha (by show yL m.2.2.1 = a; rw [hyk]; rfl) hv.2.1 h5 hG hA
      · have sub : ∀ s, s ∈ m.2.2.2.2 → s ∈ (mAn m).2.2.2.2 := fun s hs => by
          show s ∈ (if gMs (yL m.2.2.1) = true then m.2.2.2.2 ++ [mPn m] else m.2.2.2.2)
          split
          · exact List.mem_append_left _ hs
          · exact hs
        refine tOr_to hJ hf hD b (mAn m) hb (by show yR m.2.2.1 = b; rw [hyk]; rfl) hv.2.2 (fun s hs => ?_) (fun p hp => ?_) (fun p hp => sub _ (hA p hp))
        · have hs : s ∈ (if gMs (yL m.2.2.1) = true then m.2.2.2.2 ++ [mPn m] else m.2.2.2.2) := hs
          split at hs
          · rcases List.mem_append.mp hs with z | z
            · exact h5 s z
            · rw [List.mem_singleton.mp z]
              unfold lkE
              rw [gTf_no (fun p hp w => g6 (mPn m) (by rw [← w]; exact hA p hp) rfl)]
              exact Or.inl ⟨kFi_no (fun p hp => by
                obtain ⟨s', s1, s2⟩ := hG p hp
                rw [s2]
                exact g6 s' s1), rfl⟩
          · exact h5 s hs
        · obtain ⟨s, s1, s2⟩ := hG p hp
          exact ⟨s, sub s s1, s2⟩
    · rw [if_neg c] at t2 hv ⊢
      obtain ⟨o1, o2⟩ := t2
      obtain ⟨ra, sa, o3, -⟩ := hD _ _ o1
      have eL : (if k = 2 then [] else gIn Γ.2.2.1 Γ.2.2.2.1 (.inner k () () a b) m.2.2.2.2) = gIn Γ.2.2.1 Γ.2.2.2.1 m.2.2.1 m.2.2.2.2 := by
        by_cases c2 : k = 2
        · rw [if_pos c2]; exact (hv.2.2 c2).symm
        · rw [if_neg c2, hy]
      rw [eL, fQk_map] at o3
      have fl := fQk_len (Fc (Ψ.2.1 (m.1, m.2.1))) (gIn Γ.2.2.1 Γ.2.2.2.1 m.2.2.1 m.2.2.2.2) 0
      have hl : (gIn Γ.2.2.1 Γ.2.2.2.1 m.2.2.1 m.2.2.2.2).length ≤ 900 := hv.2.1
      refine ⟨ra, sa, _, o3, by rw [List.length_map]; omega, ?_, fun i cc hc => ?_⟩
      · show ((fQk (Fc (Ψ.2.1 (m.1, m.2.1))) 0 (gIn Γ.2.2.1 Γ.2.2.2.1 m.2.2.1 m.2.2.2.2)).map (tGc A2)).length = _
        rw [List.length_map, List.length_map]
      · rw [List.getElem?_map] at hc
        cases e0 : (fQk (Fc (Ψ.2.1 (m.1, m.2.1))) 0 (gIn Γ.2.2.1 Γ.2.2.2.1 m.2.2.1 m.2.2.2.2))[i]? with
        | none => rw [e0] at hc; cases hc
        | some c0 =>
          rw [e0] at hc
          injection hc with hc
          have m0 := fQk_sub 0 _ c0 (List.mem_of_getElem? e0)
          obtain ⟨v1, v2, v3, v4⟩ := hv.1 c0 m0
          refine ⟨gRs A2 c0.2, ?_, by rw [← hc]; exact v1, ?_, ?_, fun a' e' h' => (v4 a' e' h').1⟩
          · show ((fQk (Fc (Ψ.2.1 (m.1, m.2.1))) 0 (gIn Γ.2.2.1 Γ.2.2.2.1 m.2.2.1 m.2.2.2.2)).map (tGc A2))[i]? = _
            rw [List.getElem?_map, e0, ← hc]
            rfl
          · rw [← hc]
            obtain ⟨r0, t0, p0⟩ := c0
            cases t0 with
            | none => rfl
            | some q =>
              obtain ⟨s, e'⟩ := q
              exact ((h5 s (gIn_nm m0 s e' rfl).1).rs (e := e') (p := p0)).kt
          · have v3 : -1125899906842624 ≤ (gRs A2 c0.2).2 ∧ (gRs A2 c0.2).2 ≤ 1125899906842624 := v3
            omega
/-- **what is known, printed** -/
theorem tOr_of {k : Nat} {A : gTy} (hJ : pa < b0 ∧ ph < b0 ∧ ta < b0 ∧ th < b0) (hf : wFr Ψ.2.2.1 pa ph ta th σG σ) (hD : wkD st l b0 Ψ.2.2.1 σG σ Fc) (hs : ∀ w, ¬ Ψ.2.2.1 w → ∀ i, Fc w i = true) (hv : vTy Γ Nm (gSy A) A) (hA : ∀ m, A.1 = .inr m → ∀ p, p ∈ A.2 → p.1 ∈ m.2.2.2.2) (h : kRl st l b0 Γ.2.2.1 Γ.2.2.2.1 Ψ σG (fun y b => b = Ψ.1 y) k A) (hin : ∀ x, A.1 = .inl x → yK x.1 ≠ 1) : ∃ w G, kPk (b0, Ψ.2.2.1) σ k w G (cKd (yK (gSy A))) ∧ tOr Ψ.1 Nm (tSy (fun kp => Fc (Ψ.2.1 kp)) Γ.2.2.1 Γ.2.2.2.1) (b0, Ψ.2.2.1) σ G (gSy A) A w := by
  obtain ⟨A1, A2⟩ := A
  match A1, hv, hA, h, hin with
  | .inr m, hv, hA, ⟨⟨h1, h1'⟩, h2, G, h3, ⟨h4, h4', _⟩, h5⟩, _ => exact ⟨_, G, h3.pk hJ hf, tOr_to hJ hf hD m.2.2.1 m h2 rfl hv h5 h4' (hA m rfl)⟩
  | .inl x, hv, _, ⟨⟨h1, h1'⟩, F, h2, h3, h4, h5⟩, hin =>
    have h1 : A2 = [] := h1
    subst h1
    obtain ⟨ra, sa, h6, -⟩ := hD k F h3
    rw [fQk_all 0 F (hs k h1')] at h6
    refine ⟨k, [], h2.pk hJ hf, ?_⟩
    have hin := hin x rfl
    obtain ⟨y, C⟩ := x
    have hv : vTy Γ Nm y (.inl (y, C), []) := hv
    have h4 : F.length = C.length := h4
    have h5 : ∀ (i : Nat) (c : gFc), C[i]? = some c → ∃ u, F[i]? = some (c.1, u) ∧ teR (fun y b => b = Ψ.1 y) c.2 u := h5
    show tOr Ψ.1 Nm (tSy (fun kp => Fc (Ψ.2.1 kp)) Γ.2.2.1 Γ.2.2.2.1) (b0, Ψ.2.2.1) σ [] y (.inl (y, C), []) k
    match y, hv, hin, h2 with
    | .leaf, hv, _, _ => exact hv.elim
    | .inner j u1 u2 a b, hv, hin, h2 =>
      have c : j ≠ 0 := fun z => hin (by show j + 1 = 1; omega)
      unfold vTy at hv
      unfold tOr
      rw [if_neg c] at hv ⊢
      have hl : C.length ≤ 900 := hv.2.1
      refine ⟨h2.pk hJ hf, ra, sa, F, h6, by omega, ?_, fun i cc hc => ?_⟩
      · show (C.map (tGc [])).length = _
        rw [List.length_map]; exact h4.symm
      · have hi : i < C.length := by rw [← h4]; exact (List.getElem?_eq_some_iff.mp hc).1
        obtain ⟨u, q1, q2⟩ := h5 i _ (List.getElem?_eq_getElem hi)
        rw [hc] at q1
        injection q1 with q1
        obtain ⟨v1, v2, v3, v4⟩ := hv.1 _ (List.getElem_mem hi)
        have v3 : -1125899906842624 ≤ (gRs [] C[i].2).2 ∧ (gRs [] C[i].2).2 ≤ 1125899906842624 := v3
        refine ⟨gRs [] C[i].2, ?_, by rw [q1]; exact v1, ?_, by omega, fun a' e' h' => (v4 a' e' h').1⟩
        · show (C.map (tGc []))[i]? = _
          rw [List.getElem?_map, List.getElem?_eq_getElem hi, q1]
          rfl
        · rw [kRs_nl, gRs_nl, q1]
          exact q2.kt
end TKO
