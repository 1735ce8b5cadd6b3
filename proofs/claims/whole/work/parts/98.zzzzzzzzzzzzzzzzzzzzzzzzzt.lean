/-! weakenAll(): INSTANCES in cells are what they are -/
section KQU
variable {st b0 : Nat} {l : Nat → Nat} {Q : Nat → Prop} {σ : oSt}
theorem cTq.uq {su : Nat} {t t' : kTe} (h : cTq st l b0 Q σ su t) (h' : cTq st l b0 Q σ su t') : t = t' := by
  obtain ⟨na, ta, cap, L, pl, s1, e1, -, o1, -⟩ := h
  obtain ⟨na', ta', cap', L', pl', s1', e1', -, o1', -⟩ := h'
  obtain ⟨eL, eP⟩ := s1.uq s1'
  subst eL eP
  refine Prod.ext ?_ (e1.symm.trans e1')
  rcases o1 with ⟨a1, a2⟩ | ⟨a, v, a1, a2, -⟩ <;> rcases o1' with ⟨b1, b2⟩ | ⟨b, v', b1, b2, -⟩
  · rw [a1, b1]
  · rw [a2] at b2; cases b2
  · rw [a2] at b2; cases b2
  · rw [a2] at b2
    injection b2 with b2 _
    injection b2 with c1 c2
    rw [a1, b1, c1, c2]
theorem kOq.uq {w : Nat} {F F' : List kFc} (h : kOq st l b0 Q σ w F) (h' : kOq st l b0 Q σ w F') : F = F' := by
  obtain ⟨fs, h1, h2, h3, h4, h5⟩ := h
  obtain ⟨fs', h1', h2', h3', h4', h5'⟩ := h'
  rw [h1] at h1'
  injection h1' with h1'; injection h1' with h1'; injection h1' with _ h1'
  subst h1'
  have hl : F.length = F'.length := by
    rw [h3] at h3'
    injection h3' with h3'; injection h3' with h3'
    exact nI_inj' (by omega) (by omega) h3'
  rcases h5 with h5 | ⟨ra, sa, cap, hr, gs, a1, a2, a3, a4, -, -, a7⟩
  · rw [h5] at hl ⊢
    exact (List.length_eq_zero_iff.mp hl.symm).symm
  · rcases h5' with h5' | ⟨ra', sa', cap', hr', gs', b1, b2, b3, b4, -, -, b7⟩
    · rw [h5'] at hl ⊢
      exact List.length_eq_zero_iff.mp hl
    · rw [a1] at b1
      injection b1 with b1; injection b1 with b1
      rw [a2] at b2
      injection b2 with b2; injection b2 with b2
      subst b1 b2
      rw [a3] at b3
      injection b3 with b3; injection b3 with b3; injection b3 with _ b3; injection b3 with _ b3; injection b3 with b3
      rw [a4] at b4
      injection b4 with b4; injection b4 with b4; injection b4 with _ b4; injection b4 with _ b4; injection b4 with b4; injection b4 with b4; injection b4 with b4; injection b4 with b4
      subst b3 b4
      refine List.ext_getElem? (fun i => ?_)
      by_cases c : i < F.length
      · obtain ⟨x, hx⟩ : ∃ x, F[i]? = some x := ⟨_, List.getElem?_eq_getElem c⟩
        obtain ⟨x', hx'⟩ : ∃ x', F'[i]? = some x' := ⟨_, List.getElem?_eq_getElem (by omega)⟩
        obtain ⟨p1, p2, su, p3, p4⟩ := a7 i x hx
        obtain ⟨q1, q2, su', q3, q4⟩ := b7 i x' hx'
        rw [p3] at q3
        injection q3 with q3
        subst q3
        rw [hx, hx', Prod.ext (jRc_uq (by omega) (by omega) (p1.symm.trans q1)) (p4.uq q4)]
      · rw [List.getElem?_eq_none (by omega), List.getElem?_eq_none (by omega)]
end KQU
theorem sum_le {α β : Type} (F : α → Nat) (G : β → Nat) : ∀ (xs : List α) (ys : List β), xs.length = ys.length → (∀ (i : Nat) (x : α) (y : β), xs[i]? = some x → ys[i]? = some y → F x ≤ G y) → (xs.map F).sum ≤ (ys.map G).sum
  | [], _, _, _ => Nat.zero_le _
  | _ :: _, [], h, _ => by cases h
  | x :: xs, y :: ys, h, hF => by
    have I := sum_le F G xs ys (by have : xs.length + 1 = ys.length + 1 := h; omega) (fun i a b ha hb => hF (i + 1) a b ha hb)
    have := hF 0 x y rfl rfl
    rw [List.map_cons, List.map_cons, List.sum_cons, List.sum_cons]
    omega
section DKC
variable {st : Nat} {l : Nat → Nat} {b0 : Nat} {Γ : uGm} {Ψ : kGh} {σG σ : oSt} {pa ph ta th : Nat} {Fc : Nat → Nat → Bool} {Bb : Int} {Es : List (gN × Nat)}
/-- a type, as the Judge is told of it -/
theorem kRl.dk {k : Nat} {A : gTy} {S : List gN} (hJ : pa < b0 ∧ ph < b0 ∧ ta < b0 ∧ th < b0) (hf : wFr Ψ.2.2.1 pa ph ta th σG σ) (hD : wkD st l b0 Ψ.2.2.1 σG σ Fc) (hs : ∀ w, ¬ Ψ.2.2.1 w → ∀ i, Fc w i = true) (hk : kRl st l b0 Γ.2.2.1 Γ.2.2.2.1 Ψ σG (fun y b => (y, b) ∈ Es) k A) (hm : gMs (gSy A) = true) (hq : gAq Γ S Bb A) : ∃ d, kInf (b0, Ψ.2.2.1) σ Bb (Es.map Prod.snd) k d ∧ dkR (fun kp => Fc (Ψ.2.1 kp)) Γ Es A d := by
  obtain ⟨w, ra, sa, G, F, h0, hG, hO, hl, h, -⟩ := hk.dy hJ hf hD hs hm
  exact ⟨_, kRl.in h0 hG hO hl h (fun y a z => List.mem_map.mpr ⟨_, z, rfl⟩) hq, rfl, hl, h⟩
/-- **a Scope's NAMES, as the Judge is told of them** -/
theorem dk_all {sc : List gEn} {kn : Nat → Nat} (hJ : pa < b0 ∧ ph < b0 ∧ ta < b0 ∧ th < b0) (hf : wFr Ψ.2.2.1 pa ph ta th σG σ) (hD : wkD st l b0 Ψ.2.2.1 σG σ Fc) (hs : ∀ w, ¬ Ψ.2.2.1 w → ∀ i, Fc w i = true) (n2 : (Es.map Prod.snd).Nodup) (hl : (scN sc).length = Es.length) (hE : ∀ (i : Nat) (y : gN) (A : gTy), (scN sc)[i]? = some (y, A) → ∃ a, Es[i]? = some (y, a) ∧ kRl st l b0 Γ.2.2.1 Γ.2.2.2.1 Ψ σG (fun y b => (y, b) ∈ Es) (kn a) A) (hm : ∀ y A, (y, A) ∈ scN sc → gMs (gSy A) = true ∧ ∃ S, gAq Γ S Bb A) : ∃ Dk : Nat → Bool × List (Nat × kTe) × List kFc, (∀ a, a ∈ Es.map Prod.snd → kInf (b0, Ψ.2.2.1) σ Bb (Es.map Prod.snd) (kn a) (Dk a)) ∧ ∀ (i : Nat) (y : gN) (A : gTy), (scN sc)[i]? = some (y, A) → ∃ a, Es[i]? = some (y, a) ∧ dkR (fun kp => Fc (Ψ.2.1 kp)) Γ Es A (Dk a) := by
  have ex : ∀ a, ∃ d, a ∈ Es.map Prod.snd → kInf (b0, Ψ.2.2.1) σ Bb (Es.map Prod.snd) (kn a) d ∧ ∀ (i : Nat) (y : gN) (A : gTy), (scN sc)[i]? = some (y, A) → Es[i]? = some (y, a) → dkR (fun kp => Fc (Ψ.2.1 kp)) Γ Es A d := fun a => by
    by_cases ha : a ∈ Es.map Prod.snd
    · obtain ⟨i, hi⟩ := List.getElem?_of_mem ha
      rw [List.getElem?_map] at hi
      cases e : Es[i]? with
      | none => rw [e] at hi; cases hi
      | some p =>
        rw [e] at hi
        have hi : some p.2 = some a := hi
        injection hi with hi
        have il : i < Es.length := Nat.lt_of_not_le (fun z => by rw [List.getElem?_eq_none z] at e; cases e)
        obtain ⟨q, hq⟩ : ∃ q, (scN sc)[i]? = some q := ⟨_, List.getElem?_eq_getElem (by omega)⟩
        obtain ⟨a', e1, kk⟩ := hE i q.1 q.2 hq
        rw [e] at e1
        injection e1 with e1
        have ea : a' = a := by rw [← hi, e1]
        subst ea
        obtain ⟨g1, S, g2⟩ := hm q.1 q.2 (List.mem_of_getElem? hq)
        obtain ⟨d, d1, d2⟩ := kk.dk hJ hf hD hs g1 g2
        refine ⟨d, fun _ => ⟨d1, fun i' y A h1 h2 => ?_⟩⟩
        have ei : i' = i := by
          have l1 : (Es.map Prod.snd)[i']? = some a' := by rw [List.getElem?_map, h2]; rfl
          have l2 : (Es.map Prod.snd)[i]? = some a' := by rw [List.getElem?_map, e, e1]; rfl
          have l1' : i' < (Es.map Prod.snd).length := Nat.lt_of_not_le (fun z => by rw [List.getElem?_eq_none z] at l1; cases l1)
          have l2' : i < (Es.map Prod.snd).length := Nat.lt_of_not_le (fun z => by rw [List.getElem?_eq_none z] at l2; cases l2)
          rw [List.getElem?_eq_getElem l1'] at l1
          rw [List.getElem?_eq_getElem l2'] at l2
          injection l1 with l1
          injection l2 with l2
          have pw := List.pairwise_iff_getElem.mp n2
          rcases Nat.lt_trichotomy i' i with z | z | z
          · exact absurd (l1.trans l2.symm) (pw i' i l1' l2' z)
          · exact z
          · exact absurd (l2.trans l1.symm) (pw i i' l2' l1' z)
        rw [ei, hq] at h1
        injection h1 with h1
        rw [h1] at d2
        exact d2
    · exact ⟨(false, [], []), fun z => absurd z ha⟩
  refine ⟨fun a => Classical.choose (ex a), fun a ha => (Classical.choose_spec (ex a) ha).1, fun i y A h => ?_⟩
  obtain ⟨a, e, -⟩ := hE i y A h
  exact ⟨a, e, (Classical.choose_spec (ex a) (List.mem_map.mpr ⟨_, List.mem_of_getElem? e, rfl⟩)).2 i y A h e⟩
end DKC
