/-! one greatest sense, one answer -/
section PLU
variable {T : Nat} {f pp ee R R6 : Nat → Int32} {Γ : uGm} {C B : Int} {rt : Nat → gTm} {tN : Nat → tY} {FK : Nat × List Bool → List gFc} {Fs : List gFit} {Ns : List gNd} {OT : gTy → Prop} {al al' : gAl} {p p' : Int32} {CB : List Nat → List (gCd × Bool) → Prop} {NB : List Nat → List (gCd × Bool) → (Nat × Nat × tT × List tP × List Nat × Nat) → Prop}
theorem sK_nd (hN : ∀ x, x ∈ Ns → nP Γ C B rt tN CB NB x) {x : gNd} (hx : x ∈ Ns) : scK Γ.2.2.1 Γ.2.2.2.1 (fkO Γ rt Fs Ns OT) x.1 := fun z hz m em => by
  obtain ⟨env, -, a3, -⟩ := hN x hx
  obtain ⟨S, w⟩ := scW.ty _ a3 z.1 z.2 hz
  have g := w.go em
  unfold fkO
  rw [if_pos ⟨z.2, m, Or.inr (Or.inl ⟨x, hx, z.1, hz⟩), em, rfl⟩]
  dsimp only
  rw [← g]
/-- more FACTS, more that is sound -/
theorem nSo_mo {x : gNd × Nat} (h : fLe FK al al') (hS : scK Γ.2.2.1 Γ.2.2.2.1 FK x.1.1) (w : nSo T f pp ee R R6 al Γ x) : nSo T f pp ee R R6 al' Γ x := by
  have q := qLm_mo (R := R6) (lf := none) h hS (fun X e => by cases e)
  unfold nSo at w ⊢
  by_cases c : x.2 = 0
  · rw [if_pos c] at w ⊢
    exact fun z => w (exL.anti (kFe.anti (fun _ _ _ _ => trivial)) _ _ _ _ q z)
  · rw [if_neg c] at w ⊢
    exact ⟨w.1, fun z => w.2 (exL.anti (kFe.anti (fun _ _ _ _ => trivial)) _ _ _ _ (fun l hl => by
      rcases List.mem_append.mp hl with hl | hl
      · exact List.mem_append_left _ hl
      · exact List.mem_append_right _ (q l hl)) z)⟩
theorem plQ_uq {so so' : gNd × Nat → Prop} {l : List (gNd × Nat)} (h : ∀ x, x ∈ l → (so x ↔ so' x)) (hp : ∀ w, 0 ≤ pp w) (q : plQ pp so l p) (q' : plQ pp so' l p') : p = p' := by
  rcases q with ⟨q1, q2⟩ | ⟨x, x1, x2, x3, x4⟩
  · rcases q' with ⟨r1, r2⟩ | ⟨y, y1, y2, y3, y4⟩
    · rw [q1, r1]
    · exact absurd ((h y y1).mp (q2 y y1)) y2
  · rcases q' with ⟨r1, r2⟩ | ⟨y, y1, y2, y3, y4⟩
    · exact absurd ((h x x1).mpr (r2 x x1)) x2
    · rw [x3, y3]
      have a := x4 y y1 (fun z => y2 ((h y y1).mp z))
      have b := y4 x x1 (fun z => x2 ((h x x1).mpr z))
      rw [Int32.le_iff_toInt_le] at a b
      exact Int32.toInt_inj.mp (by omega)
theorem gN2_me {x : gNd} {y : gNd × Nat} (h : y ∈ gN2 x) : y.1 = x := by
  unfold gN2 at h
  split at h
  · rcases List.mem_cons.mp h with z | z
    · rw [z]
    · rw [List.mem_singleton.mp z]
  · rw [List.mem_singleton.mp h]
/-- **the answers are the same** -/
theorem pl_uq (hN : ∀ x, x ∈ Ns → nP Γ C B rt tN CB NB x) (hp : ∀ w, 0 ≤ pp w) (g1 : gGr T f pp ee R R6 Γ (fkO Γ rt Fs Ns OT) Fs al) (g2 : gGr T f pp ee R R6 Γ (fkO Γ rt Fs Ns OT) Fs al') (q1 : plQ pp (nSo T f pp ee R R6 al Γ) (Ns.flatMap gN2) p) (q2 : plQ pp (nSo T f pp ee R R6 al' Γ) (Ns.flatMap gN2) p') : p = p' := by
  obtain ⟨u1, u2⟩ := g1.uq g2
  refine plQ_uq (fun x hx => ?_) hp q1 q2
  obtain ⟨y, hy, hx⟩ := List.mem_flatMap.mp hx
  have e := gN2_me hx
  have k : scK Γ.2.2.1 Γ.2.2.2.1 (fkO Γ rt Fs Ns OT) x.1.1 := by rw [e]; exact sK_nd hN hy
  exact ⟨nSo_mo u1 k, nSo_mo u2 k⟩
end PLU
